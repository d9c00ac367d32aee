theorem tq_1 {w : Cond} (h : w ∈ tables_1_1) : w ∈ tables_1 := List.mem_append_left _ h
theorem tq_2 {w : Cond} (h : w ∈ tables_1_2) : w ∈ tables_1 := List.mem_append_right _ (List.mem_append_left _ h)
theorem tq_3 {w : Cond} (h : w ∈ tables_1_3) : w ∈ tables_1 := List.mem_append_right _ (List.mem_append_right _ (List.mem_append_left _ h))
theorem tq_4 {w : Cond} (h : w ∈ tables_1_4) : w ∈ tables_1 := List.mem_append_right _ (List.mem_append_right _ (List.mem_append_right _ (List.mem_append_left _ h)))
theorem tq_5 {w : Cond} (h : w ∈ tables_1_5) : w ∈ tables_1 := List.mem_append_right _ (List.mem_append_right _ (List.mem_append_right _ (List.mem_append_right _ (List.mem_append_left _ h))))
theorem tq_6 {w : Cond} (h : w ∈ tables_1_6) : w ∈ tables_1 := List.mem_append_right _ (List.mem_append_right _ (List.mem_append_right _ (List.mem_append_right _ (List.mem_append_right _ (List.mem_append_left _ h)))))
theorem tq_7 {w : Cond} (h : w ∈ tables_1_7) : w ∈ tables_1 := List.mem_append_right _ (List.mem_append_right _ (List.mem_append_right _ (List.mem_append_right _ (List.mem_append_right _ (List.mem_append_right _ (List.mem_append_left _ h))))))
theorem tq_8 {w : Cond} (h : w ∈ tables_1_8) : w ∈ tables_1 := List.mem_append_right _ (List.mem_append_right _ (List.mem_append_right _ (List.mem_append_right _ (List.mem_append_right _ (List.mem_append_right _ (List.mem_append_right _ (List.mem_append_left _ h)))))))
theorem tq_9 {w : Cond} (h : w ∈ tables_1_9) : w ∈ tables_1 := List.mem_append_right _ (List.mem_append_right _ (List.mem_append_right _ (List.mem_append_right _ (List.mem_append_right _ (List.mem_append_right _ (List.mem_append_right _ (List.mem_append_right _ (List.mem_append_left _ h))))))))
theorem tq_10 {w : Cond} (h : w ∈ tables_1_10) : w ∈ tables_1 := List.mem_append_right _ (List.mem_append_right _ (List.mem_append_right _ (List.mem_append_right _ (List.mem_append_right _ (List.mem_append_right _ (List.mem_append_right _ (List.mem_append_right _ (List.mem_append_right _ (List.mem_append_left _ h)))))))))
theorem tq_11 {w : Cond} (h : w ∈ tables_1_11) : w ∈ tables_1 := List.mem_append_right _ (List.mem_append_right _ (List.mem_append_right _ (List.mem_append_right _ (List.mem_append_right _ (List.mem_append_right _ (List.mem_append_right _ (List.mem_append_right _ (List.mem_append_right _ (List.mem_append_right _ (List.mem_append_left _ h))))))))))
theorem tq_12 {w : Cond} (h : w ∈ tables_1_12) : w ∈ tables_1 := List.mem_append_right _ (List.mem_append_right _ (List.mem_append_right _ (List.mem_append_right _ (List.mem_append_right _ (List.mem_append_right _ (List.mem_append_right _ (List.mem_append_right _ (List.mem_append_right _ (List.mem_append_right _ (List.mem_append_right _ (h)))))))))))
theorem tg_1 {w : Cond} {i : Nat} (h : tables_1_1[i]? = some w) (hg : goodWord w = true) : w ∈ lw_gd := List.mem_filter.mpr ⟨List.mem_append_right _ (tq_1 (List.mem_of_getElem? h)), hg⟩
theorem tg_2 {w : Cond} {i : Nat} (h : tables_1_2[i]? = some w) (hg : goodWord w = true) : w ∈ lw_gd := List.mem_filter.mpr ⟨List.mem_append_right _ (tq_2 (List.mem_of_getElem? h)), hg⟩
theorem tg_3 {w : Cond} {i : Nat} (h : tables_1_3[i]? = some w) (hg : goodWord w = true) : w ∈ lw_gd := List.mem_filter.mpr ⟨List.mem_append_right _ (tq_3 (List.mem_of_getElem? h)), hg⟩
theorem tg_4 {w : Cond} {i : Nat} (h : tables_1_4[i]? = some w) (hg : goodWord w = true) : w ∈ lw_gd := List.mem_filter.mpr ⟨List.mem_append_right _ (tq_4 (List.mem_of_getElem? h)), hg⟩
theorem tg_5 {w : Cond} {i : Nat} (h : tables_1_5[i]? = some w) (hg : goodWord w = true) : w ∈ lw_gd := List.mem_filter.mpr ⟨List.mem_append_right _ (tq_5 (List.mem_of_getElem? h)), hg⟩
theorem tg_6 {w : Cond} {i : Nat} (h : tables_1_6[i]? = some w) (hg : goodWord w = true) : w ∈ lw_gd := List.mem_filter.mpr ⟨List.mem_append_right _ (tq_6 (List.mem_of_getElem? h)), hg⟩
theorem tg_7 {w : Cond} {i : Nat} (h : tables_1_7[i]? = some w) (hg : goodWord w = true) : w ∈ lw_gd := List.mem_filter.mpr ⟨List.mem_append_right _ (tq_7 (List.mem_of_getElem? h)), hg⟩
theorem tg_8 {w : Cond} {i : Nat} (h : tables_1_8[i]? = some w) (hg : goodWord w = true) : w ∈ lw_gd := List.mem_filter.mpr ⟨List.mem_append_right _ (tq_8 (List.mem_of_getElem? h)), hg⟩
theorem tg_9 {w : Cond} {i : Nat} (h : tables_1_9[i]? = some w) (hg : goodWord w = true) : w ∈ lw_gd := List.mem_filter.mpr ⟨List.mem_append_right _ (tq_9 (List.mem_of_getElem? h)), hg⟩
theorem tg_10 {w : Cond} {i : Nat} (h : tables_1_10[i]? = some w) (hg : goodWord w = true) : w ∈ lw_gd := List.mem_filter.mpr ⟨List.mem_append_right _ (tq_10 (List.mem_of_getElem? h)), hg⟩
theorem tg_11 {w : Cond} {i : Nat} (h : tables_1_11[i]? = some w) (hg : goodWord w = true) : w ∈ lw_gd := List.mem_filter.mpr ⟨List.mem_append_right _ (tq_11 (List.mem_of_getElem? h)), hg⟩
theorem tg_12 {w : Cond} {i : Nat} (h : tables_1_12[i]? = some w) (hg : goodWord w = true) : w ∈ lw_gd := List.mem_filter.mpr ⟨List.mem_append_right _ (tq_12 (List.mem_of_getElem? h)), hg⟩
theorem tn_1 {w : Cond} {i : Nat} (h : tables_1_1[i]? = some w) (hg : nw_is w = true) : w ∈ lw_nest := List.mem_filter.mpr ⟨tq_1 (List.mem_of_getElem? h), hg⟩
theorem tn_2 {w : Cond} {i : Nat} (h : tables_1_2[i]? = some w) (hg : nw_is w = true) : w ∈ lw_nest := List.mem_filter.mpr ⟨tq_2 (List.mem_of_getElem? h), hg⟩
theorem tn_3 {w : Cond} {i : Nat} (h : tables_1_3[i]? = some w) (hg : nw_is w = true) : w ∈ lw_nest := List.mem_filter.mpr ⟨tq_3 (List.mem_of_getElem? h), hg⟩
theorem tn_4 {w : Cond} {i : Nat} (h : tables_1_4[i]? = some w) (hg : nw_is w = true) : w ∈ lw_nest := List.mem_filter.mpr ⟨tq_4 (List.mem_of_getElem? h), hg⟩
theorem tn_5 {w : Cond} {i : Nat} (h : tables_1_5[i]? = some w) (hg : nw_is w = true) : w ∈ lw_nest := List.mem_filter.mpr ⟨tq_5 (List.mem_of_getElem? h), hg⟩
theorem tn_6 {w : Cond} {i : Nat} (h : tables_1_6[i]? = some w) (hg : nw_is w = true) : w ∈ lw_nest := List.mem_filter.mpr ⟨tq_6 (List.mem_of_getElem? h), hg⟩
theorem tn_7 {w : Cond} {i : Nat} (h : tables_1_7[i]? = some w) (hg : nw_is w = true) : w ∈ lw_nest := List.mem_filter.mpr ⟨tq_7 (List.mem_of_getElem? h), hg⟩
theorem tn_8 {w : Cond} {i : Nat} (h : tables_1_8[i]? = some w) (hg : nw_is w = true) : w ∈ lw_nest := List.mem_filter.mpr ⟨tq_8 (List.mem_of_getElem? h), hg⟩
theorem tn_9 {w : Cond} {i : Nat} (h : tables_1_9[i]? = some w) (hg : nw_is w = true) : w ∈ lw_nest := List.mem_filter.mpr ⟨tq_9 (List.mem_of_getElem? h), hg⟩
theorem tn_10 {w : Cond} {i : Nat} (h : tables_1_10[i]? = some w) (hg : nw_is w = true) : w ∈ lw_nest := List.mem_filter.mpr ⟨tq_10 (List.mem_of_getElem? h), hg⟩
theorem tn_11 {w : Cond} {i : Nat} (h : tables_1_11[i]? = some w) (hg : nw_is w = true) : w ∈ lw_nest := List.mem_filter.mpr ⟨tq_11 (List.mem_of_getElem? h), hg⟩
theorem tn_12 {w : Cond} {i : Nat} (h : tables_1_12[i]? = some w) (hg : nw_is w = true) : w ∈ lw_nest := List.mem_filter.mpr ⟨tq_12 (List.mem_of_getElem? h), hg⟩
set_option maxRecDepth 100000 in
theorem mw_1 : (.initialized "BreweryHouse" : Cond) ∈ lw_gd := tg_1 (i := 1) rfl rfl
set_option maxRecDepth 100000 in
theorem mw_2 : (.initialized "BreweryHouse$Tape" : Cond) ∈ lw_gd := tg_1 (i := 2) rfl rfl
set_option maxRecDepth 100000 in
theorem mw_3 : (.initialized "BreweryHouse$Alarms" : Cond) ∈ lw_gd := tg_1 (i := 3) rfl rfl
set_option maxRecDepth 100000 in
theorem mw_4 : (.initialized "BreweryHouse$Stock" : Cond) ∈ lw_gd := tg_1 (i := 4) rfl rfl
set_option maxRecDepth 100000 in
theorem mw_5 : (.initialized "BreweryHouse$Plant" : Cond) ∈ lw_gd := tg_1 (i := 5) rfl rfl
set_option maxRecDepth 100000 in
theorem mw_6 : (.initialized "java/util/Arrays" : Cond) ∈ lw_gd := tg_1 (i := 6) rfl rfl
set_option maxRecDepth 100000 in
theorem mw_7 : (.initialized "BreweryHouse$Ways" : Cond) ∈ lw_gd := tg_1 (i := 7) rfl rfl
set_option maxRecDepth 100000 in
theorem mw_8 : (.initialized "BreweryHouse$Safety" : Cond) ∈ lw_gd := tg_1 (i := 8) rfl rfl
set_option maxRecDepth 100000 in
theorem mw_9 : (.initialized "BreweryHouse$Acts" : Cond) ∈ lw_gd := tg_1 (i := 9) rfl rfl
set_option maxRecDepth 100000 in
theorem mw_10 : (.initialized "BreweryHouse$Rows" : Cond) ∈ lw_gd := tg_1 (i := 10) rfl rfl
set_option maxRecDepth 100000 in
theorem mw_11 : (.initialized "BreweryHouse$Run" : Cond) ∈ lw_gd := tg_1 (i := 11) rfl rfl
set_option maxRecDepth 100000 in
theorem mw_12 : (.initialized "BreweryHouse$Program" : Cond) ∈ lw_gd := tg_1 (i := 12) rfl rfl
set_option maxRecDepth 100000 in
theorem mw_13 : (.initialized "BreweryHouse$ProgramReader" : Cond) ∈ lw_gd := tg_1 (i := 13) rfl rfl
set_option maxRecDepth 100000 in
theorem mw_18 : (.initialized "BreweryHouseModel" : Cond) ∈ lw_gd := tg_1 (i := 18) rfl rfl
set_option maxRecDepth 100000 in
theorem mw_19 : (.initialized "BreweryHouseModel$Text" : Cond) ∈ lw_gd := tg_1 (i := 19) rfl rfl
set_option maxRecDepth 100000 in
theorem mw_20 : (.initialized "BreweryHouseModel$Rows" : Cond) ∈ lw_gd := tg_1 (i := 20) rfl rfl
set_option maxRecDepth 100000 in
theorem mw_21 : (.initialized "java/lang/Math" : Cond) ∈ lw_gd := tg_1 (i := 21) rfl rfl
set_option maxRecDepth 100000 in
theorem mw_22 : (.initialized "java/lang/Long" : Cond) ∈ lw_gd := tg_1 (i := 22) rfl rfl
set_option maxRecDepth 100000 in
theorem mw_23 : (.initialized "java/lang/Integer" : Cond) ∈ lw_gd := tg_1 (i := 23) rfl rfl
set_option maxRecDepth 100000 in
theorem mw_38 : (.fieldLink "BreweryHouse$Tape" 9 "BreweryHouse$Tape" "cells" "[I" : Cond) ∈ lw_gd := tg_1 (i := 38) rfl rfl
set_option maxRecDepth 100000 in
theorem mw_39 : (.fieldLink "BreweryHouse$Tape" 15 "BreweryHouse$Tape" "length" "I" : Cond) ∈ lw_gd := tg_1 (i := 39) rfl rfl
set_option maxRecDepth 100000 in
theorem mw_40 : (.fieldLink "BreweryHouse" 123 "BreweryHouse$Tape" "length" "I" : Cond) ∈ lw_gd := tg_1 (i := 40) rfl rfl
set_option maxRecDepth 100000 in
theorem mw_41 : (.fieldLink "BreweryHouse$Plant" 47 "BreweryHouse$Tape" "end" "I" : Cond) ∈ lw_gd := tg_1 (i := 41) rfl rfl
set_option maxRecDepth 100000 in
theorem mw_42 : (.fieldLink "BreweryHouse" 127 "BreweryHouse$Tape" "end" "I" : Cond) ∈ lw_gd := tg_1 (i := 42) rfl rfl
set_option maxRecDepth 100000 in
theorem mw_43 : (.fieldLink "BreweryHouse$Tape" 19 "BreweryHouse$Tape" "end" "I" : Cond) ∈ lw_gd := tg_1 (i := 43) rfl rfl
set_option maxRecDepth 100000 in
theorem mw_44 : (.fieldLink "BreweryHouse$ProgramReader" 114 "BreweryHouse$Tape" "end" "I" : Cond) ∈ lw_gd := tg_1 (i := 44) rfl rfl
set_option maxRecDepth 100000 in
theorem mw_45 : (.fieldLink "BreweryHouse$Rows" 82 "BreweryHouse$Tape" "end" "I" : Cond) ∈ lw_gd := tg_1 (i := 45) rfl rfl
set_option maxRecDepth 100000 in
theorem mw_60 : (.fieldLink "BreweryHouse$Alarms" 21 "BreweryHouse$Alarms" "count" "I" : Cond) ∈ lw_gd := tg_1 (i := 60) rfl rfl
set_option maxRecDepth 100000 in
theorem mw_61 : (.fieldLink "BreweryHouse" 273 "BreweryHouse$Alarms" "count" "I" : Cond) ∈ lw_gd := tg_1 (i := 61) rfl rfl
set_option maxRecDepth 100000 in
theorem mw_62 : (.fieldLink "BreweryHouse$Alarms" 9 "BreweryHouse$Alarms" "seconds" "[I" : Cond) ∈ lw_gd := tg_1 (i := 62) rfl rfl
set_option maxRecDepth 100000 in
theorem mw_63 : (.fieldLink "BreweryHouse$Alarms" 15 "BreweryHouse$Alarms" "nodes" "[I" : Cond) ∈ lw_gd := tg_1 (i := 63) rfl rfl
set_option maxRecDepth 100000 in
theorem mw_64 : (.fieldLink "BreweryHouse$Alarms" 18 "BreweryHouse$Alarms" "kinds" "[I" : Cond) ∈ lw_gd := tg_1 (i := 64) rfl rfl
set_option maxRecDepth 100000 in
theorem mw_86 : (.fieldLink "BreweryHouse$Plant" 37 "BreweryHouse$Plant" "things" "I" : Cond) ∈ lw_gd := tg_1 (i := 86) rfl rfl
set_option maxRecDepth 100000 in
theorem mw_87 : (.fieldLink "BreweryHouse$Safety" 66 "BreweryHouse$Plant" "things" "I" : Cond) ∈ lw_gd := tg_1 (i := 87) rfl rfl
set_option maxRecDepth 100000 in
theorem mw_88 : (.fieldLink "BreweryHouse$Stock" 60 "BreweryHouse$Plant" "things" "I" : Cond) ∈ lw_gd := tg_1 (i := 88) rfl rfl
set_option maxRecDepth 100000 in
theorem mw_89 : (.fieldLink "BreweryHouse" 171 "BreweryHouse$Plant" "things" "I" : Cond) ∈ lw_gd := tg_1 (i := 89) rfl rfl
set_option maxRecDepth 100000 in
theorem mw_90 : (.fieldLink "BreweryHouse$Ways" 85 "BreweryHouse$Plant" "things" "I" : Cond) ∈ lw_gd := tg_1 (i := 90) rfl rfl
set_option maxRecDepth 100000 in
theorem mw_91 : (.fieldLink "BreweryHouse$Acts" 108 "BreweryHouse$Plant" "things" "I" : Cond) ∈ lw_gd := tg_1 (i := 91) rfl rfl
set_option maxRecDepth 100000 in
theorem mw_92 : (.fieldLink "BreweryHouse$Plant" 41 "BreweryHouse$Plant" "pipes" "I" : Cond) ∈ lw_gd := tg_1 (i := 92) rfl rfl
set_option maxRecDepth 100000 in
theorem mw_93 : (.fieldLink "BreweryHouse$Safety" 95 "BreweryHouse$Plant" "pipes" "I" : Cond) ∈ lw_gd := tg_1 (i := 93) rfl rfl
set_option maxRecDepth 100000 in
theorem mw_94 : (.fieldLink "BreweryHouse$Stock" 67 "BreweryHouse$Plant" "pipes" "I" : Cond) ∈ lw_gd := tg_1 (i := 94) rfl rfl
set_option maxRecDepth 100000 in
theorem mw_95 : (.fieldLink "BreweryHouse$Ways" 90 "BreweryHouse$Plant" "pipes" "I" : Cond) ∈ lw_gd := tg_1 (i := 95) rfl rfl
set_option maxRecDepth 100000 in
theorem mw_96 : (.fieldLink "BreweryHouse$Plant" 9 "BreweryHouse$Plant" "kind" "[I" : Cond) ∈ lw_gd := tg_1 (i := 96) rfl rfl
set_option maxRecDepth 100000 in
theorem mw_97 : (.fieldLink "BreweryHouse$Safety" 75 "BreweryHouse$Plant" "kind" "[I" : Cond) ∈ lw_gd := tg_1 (i := 97) rfl rfl
set_option maxRecDepth 100000 in
theorem mw_98 : (.fieldLink "BreweryHouse$Stock" 64 "BreweryHouse$Plant" "kind" "[I" : Cond) ∈ lw_gd := tg_1 (i := 98) rfl rfl
set_option maxRecDepth 100000 in
theorem mw_99 : (.fieldLink "BreweryHouse$Ways" 113 "BreweryHouse$Plant" "kind" "[I" : Cond) ∈ lw_gd := tg_1 (i := 99) rfl rfl
set_option maxRecDepth 100000 in
theorem mw_100 : (.fieldLink "BreweryHouse$Plant" 15 "BreweryHouse$Plant" "room" "[I" : Cond) ∈ lw_gd := tg_1 (i := 100) rfl rfl
set_option maxRecDepth 100000 in
theorem mw_101 : (.fieldLink "BreweryHouse" 205 "BreweryHouse$Plant" "room" "[I" : Cond) ∈ lw_gd := tg_1 (i := 101) rfl rfl
set_option maxRecDepth 100000 in
theorem mw_102 : (.fieldLink "BreweryHouse$Ways" 142 "BreweryHouse$Plant" "room" "[I" : Cond) ∈ lw_gd := tg_1 (i := 102) rfl rfl
set_option maxRecDepth 100000 in
theorem mw_103 : (.fieldLink "BreweryHouse$Plant" 18 "BreweryHouse$Plant" "ports" "[I" : Cond) ∈ lw_gd := tg_1 (i := 103) rfl rfl
set_option maxRecDepth 100000 in
theorem mw_104 : (.fieldLink "BreweryHouse$Safety" 87 "BreweryHouse$Plant" "ports" "[I" : Cond) ∈ lw_gd := tg_1 (i := 104) rfl rfl
set_option maxRecDepth 100000 in
theorem mw_105 : (.fieldLink "BreweryHouse$Plant" 21 "BreweryHouse$Plant" "pipeRoom" "[I" : Cond) ∈ lw_gd := tg_1 (i := 105) rfl rfl
set_option maxRecDepth 100000 in
theorem mw_106 : (.fieldLink "BreweryHouse$Ways" 96 "BreweryHouse$Plant" "pipeRoom" "[I" : Cond) ∈ lw_gd := tg_1 (i := 106) rfl rfl
set_option maxRecDepth 100000 in
theorem mw_107 : (.fieldLink "BreweryHouse$Stock" 94 "BreweryHouse$Plant" "pipeRoom" "[I" : Cond) ∈ lw_gd := tg_1 (i := 107) rfl rfl
set_option maxRecDepth 100000 in
theorem mw_108 : (.fieldLink "BreweryHouse$Plant" 24 "BreweryHouse$Plant" "endThing" "[I" : Cond) ∈ lw_gd := tg_1 (i := 108) rfl rfl
set_option maxRecDepth 100000 in
theorem mw_109 : (.fieldLink "BreweryHouse$Safety" 121 "BreweryHouse$Plant" "endThing" "[I" : Cond) ∈ lw_gd := tg_1 (i := 109) rfl rfl
set_option maxRecDepth 100000 in
theorem mw_110 : (.fieldLink "BreweryHouse$Ways" 93 "BreweryHouse$Plant" "endThing" "[I" : Cond) ∈ lw_gd := tg_1 (i := 110) rfl rfl
set_option maxRecDepth 100000 in
theorem mw_111 : (.fieldLink "BreweryHouse$Plant" 27 "BreweryHouse$Plant" "endPort" "[I" : Cond) ∈ lw_gd := tg_1 (i := 111) rfl rfl
set_option maxRecDepth 100000 in
theorem mw_112 : (.fieldLink "BreweryHouse$Safety" 124 "BreweryHouse$Plant" "endPort" "[I" : Cond) ∈ lw_gd := tg_1 (i := 112) rfl rfl
set_option maxRecDepth 100000 in
theorem mw_113 : (.fieldLink "BreweryHouse$Ways" 116 "BreweryHouse$Plant" "endPort" "[I" : Cond) ∈ lw_gd := tg_1 (i := 113) rfl rfl
set_option maxRecDepth 100000 in
theorem mw_114 : (.fieldLink "BreweryHouse$Plant" 30 "BreweryHouse$Plant" "portEnd" "[I" : Cond) ∈ lw_gd := tg_1 (i := 114) rfl rfl
set_option maxRecDepth 100000 in
theorem mw_115 : (.fieldLink "BreweryHouse$Safety" 127 "BreweryHouse$Plant" "portEnd" "[I" : Cond) ∈ lw_gd := tg_1 (i := 115) rfl rfl
set_option maxRecDepth 100000 in
theorem mw_116 : (.fieldLink "BreweryHouse$Ways" 110 "BreweryHouse$Plant" "portEnd" "[I" : Cond) ∈ lw_gd := tg_1 (i := 116) rfl rfl
set_option maxRecDepth 100000 in
theorem mw_117 : (.fieldLink "BreweryHouse$Plant" 33 "BreweryHouse$Plant" "tape" "LBreweryHouse$Tape;" : Cond) ∈ lw_gd := tg_1 (i := 117) rfl rfl
set_option maxRecDepth 100000 in
theorem mw_118 : (.fieldLink "BreweryHouse$Plant" 44 "BreweryHouse$Plant" "at" "I" : Cond) ∈ lw_gd := tg_1 (i := 118) rfl rfl
set_option maxRecDepth 100000 in
theorem mw_119 : (.fieldLink "BreweryHouse$Plant" 71 "BreweryHouse$Plant" "number" "I" : Cond) ∈ lw_gd := tg_1 (i := 119) rfl rfl
set_option maxRecDepth 100000 in
theorem mw_145 : (.methodLink "BreweryHouse$Stock" 50 y_Ar_fill0 : Cond) ∈ lw_gd := tg_1 (i := 145) rfl rfl
set_option maxRecDepth 100000 in
theorem mw_146 : (.static y_Ar_fill0 : Cond) ∈ lw_gd := tg_1 (i := 146) rfl rfl
set_option maxRecDepth 100000 in
theorem mw_147 : (.code y_Ar_fill0 b_Ar_fill0 4 none : Cond) ∈ lw_gd := tg_1 (i := 147) rfl rfl
set_option maxRecDepth 100000 in
theorem mw_149 : (.fieldLink "BreweryHouse$Stock" 12 "BreweryHouse$Stock" "plant" "LBreweryHouse$Plant;" : Cond) ∈ lw_gd := tg_1 (i := 149) rfl rfl
set_option maxRecDepth 100000 in
theorem mw_150 : (.fieldLink "BreweryHouse$Safety" 60 "BreweryHouse$Stock" "plant" "LBreweryHouse$Plant;" : Cond) ∈ lw_gd := tg_1 (i := 150) rfl rfl
set_option maxRecDepth 100000 in
theorem mw_151 : (.fieldLink "BreweryHouse" 151 "BreweryHouse$Stock" "plant" "LBreweryHouse$Plant;" : Cond) ∈ lw_gd := tg_1 (i := 151) rfl rfl
set_option maxRecDepth 100000 in
theorem mw_152 : (.fieldLink "BreweryHouse$Ways" 81 "BreweryHouse$Stock" "plant" "LBreweryHouse$Plant;" : Cond) ∈ lw_gd := tg_1 (i := 152) rfl rfl
set_option maxRecDepth 100000 in
theorem mw_153 : (.fieldLink "BreweryHouse$Acts" 104 "BreweryHouse$Stock" "plant" "LBreweryHouse$Plant;" : Cond) ∈ lw_gd := tg_1 (i := 153) rfl rfl
set_option maxRecDepth 100000 in
theorem mw_154 : (.fieldLink "BreweryHouse$Run" 111 "BreweryHouse$Stock" "now" "I" : Cond) ∈ lw_gd := tg_1 (i := 154) rfl rfl
set_option maxRecDepth 100000 in
theorem mw_155 : (.fieldLink "BreweryHouse$Stock" 87 "BreweryHouse$Stock" "now" "I" : Cond) ∈ lw_gd := tg_1 (i := 155) rfl rfl
set_option maxRecDepth 100000 in
theorem mw_156 : (.fieldLink "BreweryHouse" 261 "BreweryHouse$Stock" "now" "I" : Cond) ∈ lw_gd := tg_1 (i := 156) rfl rfl
set_option maxRecDepth 100000 in
theorem mw_157 : (.fieldLink "BreweryHouse$Stock" 18 "BreweryHouse$Stock" "position" "[I" : Cond) ∈ lw_gd := tg_1 (i := 157) rfl rfl
set_option maxRecDepth 100000 in
theorem mw_158 : (.fieldLink "BreweryHouse$Safety" 81 "BreweryHouse$Stock" "position" "[I" : Cond) ∈ lw_gd := tg_1 (i := 158) rfl rfl
set_option maxRecDepth 100000 in
theorem mw_159 : (.fieldLink "BreweryHouse$Acts" 139 "BreweryHouse$Stock" "position" "[I" : Cond) ∈ lw_gd := tg_1 (i := 159) rfl rfl
set_option maxRecDepth 100000 in
theorem mw_160 : (.fieldLink "BreweryHouse$Ways" 119 "BreweryHouse$Stock" "position" "[I" : Cond) ∈ lw_gd := tg_1 (i := 160) rfl rfl
set_option maxRecDepth 100000 in
theorem mw_161 : (.fieldLink "BreweryHouse" 312 "BreweryHouse$Stock" "position" "[I" : Cond) ∈ lw_gd := tg_1 (i := 161) rfl rfl
set_option maxRecDepth 100000 in
theorem mw_162 : (.fieldLink "BreweryHouse$Stock" 22 "BreweryHouse$Stock" "liquid" "[I" : Cond) ∈ lw_gd := tg_1 (i := 162) rfl rfl
set_option maxRecDepth 100000 in
theorem mw_163 : (.fieldLink "BreweryHouse$Safety" 98 "BreweryHouse$Stock" "liquid" "[I" : Cond) ∈ lw_gd := tg_1 (i := 163) rfl rfl
set_option maxRecDepth 100000 in
theorem mw_164 : (.fieldLink "BreweryHouse$Acts" 93 "BreweryHouse$Stock" "liquid" "[I" : Cond) ∈ lw_gd := tg_1 (i := 164) rfl rfl
set_option maxRecDepth 100000 in
theorem mw_165 : (.fieldLink "BreweryHouse" 215 "BreweryHouse$Stock" "liquid" "[I" : Cond) ∈ lw_gd := tg_1 (i := 165) rfl rfl
set_option maxRecDepth 100000 in
theorem mw_166 : (.fieldLink "BreweryHouse$Ways" 122 "BreweryHouse$Stock" "liquid" "[I" : Cond) ∈ lw_gd := tg_1 (i := 166) rfl rfl
set_option maxRecDepth 100000 in
theorem mw_167 : (.fieldLink "BreweryHouse$Stock" 25 "BreweryHouse$Stock" "amount" "[I" : Cond) ∈ lw_gd := tg_1 (i := 167) rfl rfl
set_option maxRecDepth 100000 in
theorem mw_168 : (.fieldLink "BreweryHouse" 208 "BreweryHouse$Stock" "amount" "[I" : Cond) ∈ lw_gd := tg_1 (i := 168) rfl rfl
set_option maxRecDepth 100000 in
theorem mw_169 : (.fieldLink "BreweryHouse$Acts" 148 "BreweryHouse$Stock" "amount" "[I" : Cond) ∈ lw_gd := tg_1 (i := 169) rfl rfl
set_option maxRecDepth 100000 in
theorem mw_170 : (.fieldLink "BreweryHouse$Ways" 139 "BreweryHouse$Stock" "amount" "[I" : Cond) ∈ lw_gd := tg_1 (i := 170) rfl rfl
set_option maxRecDepth 100000 in
theorem mw_171 : (.fieldLink "BreweryHouse$Stock" 28 "BreweryHouse$Stock" "last" "[I" : Cond) ∈ lw_gd := tg_1 (i := 171) rfl rfl
set_option maxRecDepth 100000 in
theorem mw_172 : (.fieldLink "BreweryHouse" 353 "BreweryHouse$Stock" "last" "[I" : Cond) ∈ lw_gd := tg_1 (i := 172) rfl rfl
set_option maxRecDepth 100000 in
theorem mw_173 : (.fieldLink "BreweryHouse$Stock" 31 "BreweryHouse$Stock" "cleaned" "[I" : Cond) ∈ lw_gd := tg_1 (i := 173) rfl rfl
set_option maxRecDepth 100000 in
theorem mw_174 : (.fieldLink "BreweryHouse$Stock" 34 "BreweryHouse$Stock" "litres" "[J" : Cond) ∈ lw_gd := tg_1 (i := 174) rfl rfl
set_option maxRecDepth 100000 in
theorem mw_175 : (.fieldLink "BreweryHouse$Stock" 38 "BreweryHouse$Stock" "start" "[I" : Cond) ∈ lw_gd := tg_1 (i := 175) rfl rfl
set_option maxRecDepth 100000 in
theorem mw_176 : (.fieldLink "BreweryHouse$Stock" 41 "BreweryHouse$Stock" "meeting" "[I" : Cond) ∈ lw_gd := tg_1 (i := 176) rfl rfl
set_option maxRecDepth 100000 in
theorem mw_177 : (.fieldLink "BreweryHouse$Safety" 101 "BreweryHouse$Stock" "meeting" "[I" : Cond) ∈ lw_gd := tg_1 (i := 177) rfl rfl
set_option maxRecDepth 100000 in
theorem mw_178 : (.fieldLink "BreweryHouse" 228 "BreweryHouse$Stock" "meeting" "[I" : Cond) ∈ lw_gd := tg_1 (i := 178) rfl rfl
set_option maxRecDepth 100000 in
theorem mw_179 : (.fieldLink "BreweryHouse$Stock" 44 "BreweryHouse$Stock" "needed" "[I" : Cond) ∈ lw_gd := tg_1 (i := 179) rfl rfl
set_option maxRecDepth 100000 in
theorem mw_180 : (.fieldLink "BreweryHouse" 231 "BreweryHouse$Stock" "needed" "[I" : Cond) ∈ lw_gd := tg_1 (i := 180) rfl rfl
set_option maxRecDepth 100000 in
theorem mw_181 : (.fieldLink "BreweryHouse$Stock" 47 "BreweryHouse$Stock" "lasting" "[I" : Cond) ∈ lw_gd := tg_1 (i := 181) rfl rfl
set_option maxRecDepth 100000 in
theorem mw_182 : (.fieldLink "BreweryHouse" 235 "BreweryHouse$Stock" "lasting" "[I" : Cond) ∈ lw_gd := tg_1 (i := 182) rfl rfl
set_option maxRecDepth 100000 in
theorem mw_217 : (.fieldLink "BreweryHouse$Ways" 58 "BreweryHouse$Ways" "stock" "LBreweryHouse$Stock;" : Cond) ∈ lw_gd := tg_1 (i := 217) rfl rfl
set_option maxRecDepth 100000 in
theorem mw_218 : (.fieldLink "BreweryHouse$Ways" 65 "BreweryHouse$Ways" "count" "I" : Cond) ∈ lw_gd := tg_1 (i := 218) rfl rfl
set_option maxRecDepth 100000 in
theorem mw_219 : (.fieldLink "BreweryHouse" 315 "BreweryHouse$Ways" "count" "I" : Cond) ∈ lw_gd := tg_1 (i := 219) rfl rfl
set_option maxRecDepth 100000 in
theorem mw_220 : (.fieldLink "BreweryHouse$Ways" 9 "BreweryHouse$Ways" "from" "[I" : Cond) ∈ lw_gd := tg_1 (i := 220) rfl rfl
set_option maxRecDepth 100000 in
theorem mw_221 : (.fieldLink "BreweryHouse$Ways" 15 "BreweryHouse$Ways" "to" "[I" : Cond) ∈ lw_gd := tg_1 (i := 221) rfl rfl
set_option maxRecDepth 100000 in
theorem mw_222 : (.fieldLink "BreweryHouse$Ways" 18 "BreweryHouse$Ways" "rate" "[I" : Cond) ∈ lw_gd := tg_1 (i := 222) rfl rfl
set_option maxRecDepth 100000 in
theorem mw_223 : (.fieldLink "BreweryHouse$Ways" 21 "BreweryHouse$Ways" "carried" "[I" : Cond) ∈ lw_gd := tg_1 (i := 223) rfl rfl
set_option maxRecDepth 100000 in
theorem mw_224 : (.fieldLink "BreweryHouse$Ways" 24 "BreweryHouse$Ways" "length" "[I" : Cond) ∈ lw_gd := tg_1 (i := 224) rfl rfl
set_option maxRecDepth 100000 in
theorem mw_225 : (.fieldLink "BreweryHouse$Ways" 27 "BreweryHouse$Ways" "firstPipe" "[I" : Cond) ∈ lw_gd := tg_1 (i := 225) rfl rfl
set_option maxRecDepth 100000 in
theorem mw_226 : (.fieldLink "BreweryHouse$Ways" 30 "BreweryHouse$Ways" "lastPipe" "[I" : Cond) ∈ lw_gd := tg_1 (i := 226) rfl rfl
set_option maxRecDepth 100000 in
theorem mw_227 : (.fieldLink "BreweryHouse$Ways" 33 "BreweryHouse$Ways" "exit" "[I" : Cond) ∈ lw_gd := tg_1 (i := 227) rfl rfl
set_option maxRecDepth 100000 in
theorem mw_228 : (.fieldLink "BreweryHouse$Ways" 36 "BreweryHouse$Ways" "nextPipe" "[I" : Cond) ∈ lw_gd := tg_1 (i := 228) rfl rfl
set_option maxRecDepth 100000 in
theorem mw_229 : (.fieldLink "BreweryHouse$Ways" 39 "BreweryHouse$Ways" "taken" "[Z" : Cond) ∈ lw_gd := tg_1 (i := 229) rfl rfl
set_option maxRecDepth 100000 in
theorem mw_230 : (.fieldLink "BreweryHouse$Ways" 43 "BreweryHouse$Ways" "over" "[I" : Cond) ∈ lw_gd := tg_1 (i := 230) rfl rfl
set_option maxRecDepth 100000 in
theorem mw_231 : (.fieldLink "BreweryHouse$Ways" 46 "BreweryHouse$Ways" "leg" "[I" : Cond) ∈ lw_gd := tg_1 (i := 231) rfl rfl
set_option maxRecDepth 100000 in
theorem mw_232 : (.fieldLink "BreweryHouse$Ways" 49 "BreweryHouse$Ways" "path" "[I" : Cond) ∈ lw_gd := tg_1 (i := 232) rfl rfl
set_option maxRecDepth 100000 in
theorem mw_233 : (.fieldLink "BreweryHouse$Acts" 113 "BreweryHouse$Ways" "path" "[I" : Cond) ∈ lw_gd := tg_1 (i := 233) rfl rfl
set_option maxRecDepth 100000 in
theorem mw_234 : (.fieldLink "BreweryHouse$Acts" 100 "BreweryHouse$Ways" "pathLength" "I" : Cond) ∈ lw_gd := tg_1 (i := 234) rfl rfl
set_option maxRecDepth 100000 in
theorem mw_235 : (.fieldLink "BreweryHouse$Ways" 107 "BreweryHouse$Ways" "pathLength" "I" : Cond) ∈ lw_gd := tg_1 (i := 235) rfl rfl
set_option maxRecDepth 100000 in
theorem mw_236 : (.fieldLink "BreweryHouse$Ways" 52 "BreweryHouse$Ways" "before" "[I" : Cond) ∈ lw_gd := tg_1 (i := 236) rfl rfl
set_option maxRecDepth 100000 in
theorem mw_237 : (.fieldLink "BreweryHouse$Ways" 55 "BreweryHouse$Ways" "needed" "[I" : Cond) ∈ lw_gd := tg_1 (i := 237) rfl rfl
set_option maxRecDepth 100000 in
theorem mw_282 : (.fieldLink "BreweryHouse$Safety" 25 "BreweryHouse$Safety" "stock" "LBreweryHouse$Stock;" : Cond) ∈ lw_gd := tg_2 (i := 42) rfl rfl
set_option maxRecDepth 100000 in
theorem mw_283 : (.fieldLink "BreweryHouse$Safety" 29 "BreweryHouse$Safety" "ways" "LBreweryHouse$Ways;" : Cond) ∈ lw_gd := tg_2 (i := 43) rfl rfl
set_option maxRecDepth 100000 in
theorem mw_284 : (.fieldLink "BreweryHouse$Safety" 9 "BreweryHouse$Safety" "sources" "[J" : Cond) ∈ lw_gd := tg_2 (i := 44) rfl rfl
set_option maxRecDepth 100000 in
theorem mw_285 : (.fieldLink "BreweryHouse$Safety" 15 "BreweryHouse$Safety" "rivals" "[I" : Cond) ∈ lw_gd := tg_2 (i := 45) rfl rfl
set_option maxRecDepth 100000 in
theorem mw_286 : (.fieldLink "BreweryHouse$Safety" 19 "BreweryHouse$Safety" "flooded" "[J" : Cond) ∈ lw_gd := tg_2 (i := 46) rfl rfl
set_option maxRecDepth 100000 in
theorem mw_287 : (.fieldLink "BreweryHouse$Safety" 22 "BreweryHouse$Safety" "reach" "[J" : Cond) ∈ lw_gd := tg_2 (i := 47) rfl rfl
set_option maxRecDepth 100000 in
theorem mw_288 : (.fieldLink "BreweryHouse$Safety" 33 "BreweryHouse$Safety" "failure" "I" : Cond) ∈ lw_gd := tg_2 (i := 48) rfl rfl
set_option maxRecDepth 100000 in
theorem mw_289 : (.fieldLink "BreweryHouse" 359 "BreweryHouse$Safety" "failure" "I" : Cond) ∈ lw_gd := tg_2 (i := 49) rfl rfl
set_option maxRecDepth 100000 in
theorem mw_290 : (.fieldLink "BreweryHouse$Safety" 104 "BreweryHouse$Safety" "where" "I" : Cond) ∈ lw_gd := tg_2 (i := 50) rfl rfl
set_option maxRecDepth 100000 in
theorem mw_291 : (.fieldLink "BreweryHouse" 362 "BreweryHouse$Safety" "where" "I" : Cond) ∈ lw_gd := tg_2 (i := 51) rfl rfl
set_option maxRecDepth 100000 in
theorem mw_292 : (.fieldLink "BreweryHouse$Safety" 115 "BreweryHouse$Safety" "firstLiquid" "I" : Cond) ∈ lw_gd := tg_2 (i := 52) rfl rfl
set_option maxRecDepth 100000 in
theorem mw_293 : (.fieldLink "BreweryHouse" 365 "BreweryHouse$Safety" "firstLiquid" "I" : Cond) ∈ lw_gd := tg_2 (i := 53) rfl rfl
set_option maxRecDepth 100000 in
theorem mw_294 : (.fieldLink "BreweryHouse$Safety" 118 "BreweryHouse$Safety" "secondLiquid" "I" : Cond) ∈ lw_gd := tg_2 (i := 54) rfl rfl
set_option maxRecDepth 100000 in
theorem mw_295 : (.fieldLink "BreweryHouse" 368 "BreweryHouse$Safety" "secondLiquid" "I" : Cond) ∈ lw_gd := tg_2 (i := 55) rfl rfl
set_option maxRecDepth 100000 in
theorem mw_329 : (.fieldLink "BreweryHouse$Rows" 37 "BreweryHouse$Rows" "count" "I" : Cond) ∈ lw_gd := tg_2 (i := 89) rfl rfl
set_option maxRecDepth 100000 in
theorem mw_330 : (.fieldLink "BreweryHouse" 180 "BreweryHouse$Rows" "count" "I" : Cond) ∈ lw_gd := tg_2 (i := 90) rfl rfl
set_option maxRecDepth 100000 in
theorem mw_331 : (.fieldLink "BreweryHouse$Rows" 41 "BreweryHouse$Rows" "conditions" "I" : Cond) ∈ lw_gd := tg_2 (i := 91) rfl rfl
set_option maxRecDepth 100000 in
theorem mw_332 : (.fieldLink "BreweryHouse" 177 "BreweryHouse$Rows" "conditions" "I" : Cond) ∈ lw_gd := tg_2 (i := 92) rfl rfl
set_option maxRecDepth 100000 in
theorem mw_333 : (.fieldLink "BreweryHouse$Rows" 9 "BreweryHouse$Rows" "counts" "[I" : Cond) ∈ lw_gd := tg_2 (i := 93) rfl rfl
set_option maxRecDepth 100000 in
theorem mw_334 : (.fieldLink "BreweryHouse" 339 "BreweryHouse$Rows" "counts" "[I" : Cond) ∈ lw_gd := tg_2 (i := 94) rfl rfl
set_option maxRecDepth 100000 in
theorem mw_335 : (.fieldLink "BreweryHouse$Rows" 15 "BreweryHouse$Rows" "latched" "[Z" : Cond) ∈ lw_gd := tg_2 (i := 95) rfl rfl
set_option maxRecDepth 100000 in
theorem mw_336 : (.fieldLink "BreweryHouse" 329 "BreweryHouse$Rows" "latched" "[Z" : Cond) ∈ lw_gd := tg_2 (i := 96) rfl rfl
set_option maxRecDepth 100000 in
theorem mw_337 : (.fieldLink "BreweryHouse$Rows" 19 "BreweryHouse$Rows" "passed" "[I" : Cond) ∈ lw_gd := tg_2 (i := 97) rfl rfl
set_option maxRecDepth 100000 in
theorem mw_338 : (.fieldLink "BreweryHouse" 326 "BreweryHouse$Rows" "passed" "[I" : Cond) ∈ lw_gd := tg_2 (i := 98) rfl rfl
set_option maxRecDepth 100000 in
theorem mw_339 : (.fieldLink "BreweryHouse$Rows" 22 "BreweryHouse$Rows" "barred" "[I" : Cond) ∈ lw_gd := tg_2 (i := 99) rfl rfl
set_option maxRecDepth 100000 in
theorem mw_340 : (.fieldLink "BreweryHouse$Rows" 25 "BreweryHouse$Rows" "least" "[I" : Cond) ∈ lw_gd := tg_2 (i := 100) rfl rfl
set_option maxRecDepth 100000 in
theorem mw_341 : (.fieldLink "BreweryHouse$Rows" 28 "BreweryHouse$Rows" "latching" "[Z" : Cond) ∈ lw_gd := tg_2 (i := 101) rfl rfl
set_option maxRecDepth 100000 in
theorem mw_342 : (.fieldLink "BreweryHouse$Rows" 31 "BreweryHouse$Rows" "start" "[I" : Cond) ∈ lw_gd := tg_2 (i := 102) rfl rfl
set_option maxRecDepth 100000 in
theorem mw_343 : (.fieldLink "BreweryHouse$Rows" 34 "BreweryHouse$Rows" "codes" "[I" : Cond) ∈ lw_gd := tg_2 (i := 103) rfl rfl
set_option maxRecDepth 100000 in
theorem mw_344 : (.fieldLink "BreweryHouse$Rows" 61 "BreweryHouse$Rows" "used" "I" : Cond) ∈ lw_gd := tg_2 (i := 104) rfl rfl
set_option maxRecDepth 100000 in
theorem mw_345 : (.fieldLink "BreweryHouse$Rows" 57 "BreweryHouse$Rows" "tape" "LBreweryHouse$Tape;" : Cond) ∈ lw_gd := tg_2 (i := 105) rfl rfl
set_option maxRecDepth 100000 in
theorem mw_346 : (.fieldLink "BreweryHouse$Rows" 79 "BreweryHouse$Rows" "wordAt" "I" : Cond) ∈ lw_gd := tg_2 (i := 106) rfl rfl
set_option maxRecDepth 100000 in
theorem mw_347 : (.fieldLink "BreweryHouse$Rows" 73 "BreweryHouse$Rows" "wordEnd" "I" : Cond) ∈ lw_gd := tg_2 (i := 107) rfl rfl
set_option maxRecDepth 100000 in
theorem mw_348 : (.fieldLink "BreweryHouse$Rows" 70 "BreweryHouse$Rows" "word" "I" : Cond) ∈ lw_gd := tg_2 (i := 108) rfl rfl
set_option maxRecDepth 100000 in
theorem mw_349 : (.fieldLink "BreweryHouse$Rows" 67 "BreweryHouse$Rows" "open" "I" : Cond) ∈ lw_gd := tg_2 (i := 109) rfl rfl
set_option maxRecDepth 100000 in
theorem mw_350 : (.fieldLink "BreweryHouse$Rows" 130 "BreweryHouse$Rows" "told" "I" : Cond) ∈ lw_gd := tg_2 (i := 110) rfl rfl
set_option maxRecDepth 100000 in
theorem mw_351 : (.fieldLink "BreweryHouse$Rows" 64 "BreweryHouse$Rows" "wrong" "I" : Cond) ∈ lw_gd := tg_2 (i := 111) rfl rfl
set_option maxRecDepth 100000 in
theorem mw_390 : (.fieldLink "BreweryHouse$Acts" 31 "BreweryHouse$Acts" "stock" "LBreweryHouse$Stock;" : Cond) ∈ lw_gd := tg_2 (i := 150) rfl rfl
set_option maxRecDepth 100000 in
theorem mw_391 : (.fieldLink "BreweryHouse$Acts" 35 "BreweryHouse$Acts" "ways" "LBreweryHouse$Ways;" : Cond) ∈ lw_gd := tg_2 (i := 151) rfl rfl
set_option maxRecDepth 100000 in
theorem mw_392 : (.fieldLink "BreweryHouse$Acts" 39 "BreweryHouse$Acts" "safety" "LBreweryHouse$Safety;" : Cond) ∈ lw_gd := tg_2 (i := 152) rfl rfl
set_option maxRecDepth 100000 in
theorem mw_393 : (.fieldLink "BreweryHouse$Acts" 12 "BreweryHouse$Acts" "rows" "LBreweryHouse$Rows;" : Cond) ∈ lw_gd := tg_2 (i := 153) rfl rfl
set_option maxRecDepth 100000 in
theorem mw_394 : (.fieldLink "BreweryHouse" 174 "BreweryHouse$Acts" "rows" "LBreweryHouse$Rows;" : Cond) ∈ lw_gd := tg_2 (i := 154) rfl rfl
set_option maxRecDepth 100000 in
theorem mw_395 : (.fieldLink "BreweryHouse$Acts" 18 "BreweryHouse$Acts" "what" "[I" : Cond) ∈ lw_gd := tg_2 (i := 155) rfl rfl
set_option maxRecDepth 100000 in
theorem mw_396 : (.fieldLink "BreweryHouse$Acts" 22 "BreweryHouse$Acts" "x" "[I" : Cond) ∈ lw_gd := tg_2 (i := 156) rfl rfl
set_option maxRecDepth 100000 in
theorem mw_397 : (.fieldLink "BreweryHouse$Acts" 25 "BreweryHouse$Acts" "y" "[I" : Cond) ∈ lw_gd := tg_2 (i := 157) rfl rfl
set_option maxRecDepth 100000 in
theorem mw_398 : (.fieldLink "BreweryHouse$Acts" 28 "BreweryHouse$Acts" "z" "[I" : Cond) ∈ lw_gd := tg_2 (i := 158) rfl rfl
set_option maxRecDepth 100000 in
theorem mw_428 : (.fieldLink "BreweryHouse$Program" 59 "BreweryHouse$Program" "statements" "I" : Cond) ∈ lw_gd := tg_2 (i := 188) rfl rfl
set_option maxRecDepth 100000 in
theorem mw_429 : (.fieldLink "BreweryHouse" 193 "BreweryHouse$Program" "statements" "I" : Cond) ∈ lw_gd := tg_2 (i := 189) rfl rfl
set_option maxRecDepth 100000 in
theorem mw_430 : (.fieldLink "BreweryHouse$ProgramReader" 188 "BreweryHouse$Program" "statements" "I" : Cond) ∈ lw_gd := tg_2 (i := 190) rfl rfl
set_option maxRecDepth 100000 in
theorem mw_431 : (.fieldLink "BreweryHouse$Program" 62 "BreweryHouse$Program" "nodes" "I" : Cond) ∈ lw_gd := tg_2 (i := 191) rfl rfl
set_option maxRecDepth 100000 in
theorem mw_432 : (.fieldLink "BreweryHouse$ProgramReader" 160 "BreweryHouse$Program" "nodes" "I" : Cond) ∈ lw_gd := tg_2 (i := 192) rfl rfl
set_option maxRecDepth 100000 in
theorem mw_433 : (.fieldLink "BreweryHouse$Program" 9 "BreweryHouse$Program" "opening" "I" : Cond) ∈ lw_gd := tg_2 (i := 193) rfl rfl
set_option maxRecDepth 100000 in
theorem mw_434 : (.fieldLink "BreweryHouse$ProgramReader" 102 "BreweryHouse$Program" "opening" "I" : Cond) ∈ lw_gd := tg_2 (i := 194) rfl rfl
set_option maxRecDepth 100000 in
theorem mw_435 : (.fieldLink "BreweryHouse$Run" 69 "BreweryHouse$Program" "opening" "I" : Cond) ∈ lw_gd := tg_2 (i := 195) rfl rfl
set_option maxRecDepth 100000 in
theorem mw_436 : (.fieldLink "BreweryHouse" 267 "BreweryHouse$Program" "opening" "I" : Cond) ∈ lw_gd := tg_2 (i := 196) rfl rfl
set_option maxRecDepth 100000 in
theorem mw_437 : (.fieldLink "BreweryHouse$Program" 15 "BreweryHouse$Program" "kind" "[I" : Cond) ∈ lw_gd := tg_2 (i := 197) rfl rfl
set_option maxRecDepth 100000 in
theorem mw_438 : (.fieldLink "BreweryHouse$Run" 122 "BreweryHouse$Program" "kind" "[I" : Cond) ∈ lw_gd := tg_2 (i := 198) rfl rfl
set_option maxRecDepth 100000 in
theorem mw_439 : (.fieldLink "BreweryHouse$ProgramReader" 163 "BreweryHouse$Program" "kind" "[I" : Cond) ∈ lw_gd := tg_2 (i := 199) rfl rfl
set_option maxRecDepth 100000 in
theorem mw_440 : (.fieldLink "BreweryHouse$Program" 19 "BreweryHouse$Program" "arg" "[I" : Cond) ∈ lw_gd := tg_2 (i := 200) rfl rfl
set_option maxRecDepth 100000 in
theorem mw_441 : (.fieldLink "BreweryHouse$ProgramReader" 166 "BreweryHouse$Program" "arg" "[I" : Cond) ∈ lw_gd := tg_2 (i := 201) rfl rfl
set_option maxRecDepth 100000 in
theorem mw_442 : (.fieldLink "BreweryHouse$Run" 166 "BreweryHouse$Program" "arg" "[I" : Cond) ∈ lw_gd := tg_2 (i := 202) rfl rfl
set_option maxRecDepth 100000 in
theorem mw_444 : (.fieldLink "BreweryHouse$Run" 128 "BreweryHouse$Program" "from" "[I" : Cond) ∈ lw_gd := tg_2 (i := 204) rfl rfl
set_option maxRecDepth 100000 in
theorem mw_445 : (.fieldLink "BreweryHouse$ProgramReader" 169 "BreweryHouse$Program" "from" "[I" : Cond) ∈ lw_gd := tg_2 (i := 205) rfl rfl
set_option maxRecDepth 100000 in
theorem mw_447 : (.fieldLink "BreweryHouse$Run" 131 "BreweryHouse$Program" "to" "[I" : Cond) ∈ lw_gd := tg_2 (i := 207) rfl rfl
set_option maxRecDepth 100000 in
theorem mw_448 : (.fieldLink "BreweryHouse$ProgramReader" 172 "BreweryHouse$Program" "to" "[I" : Cond) ∈ lw_gd := tg_2 (i := 208) rfl rfl
set_option maxRecDepth 100000 in
theorem mw_449 : (.fieldLink "BreweryHouse$Program" 28 "BreweryHouse$Program" "first" "[I" : Cond) ∈ lw_gd := tg_2 (i := 209) rfl rfl
set_option maxRecDepth 100000 in
theorem mw_450 : (.fieldLink "BreweryHouse$ProgramReader" 175 "BreweryHouse$Program" "first" "[I" : Cond) ∈ lw_gd := tg_2 (i := 210) rfl rfl
set_option maxRecDepth 100000 in
theorem mw_452 : (.fieldLink "BreweryHouse$ProgramReader" 105 "BreweryHouse$Program" "next" "[I" : Cond) ∈ lw_gd := tg_2 (i := 212) rfl rfl
set_option maxRecDepth 100000 in
theorem mw_453 : (.fieldLink "BreweryHouse$Run" 80 "BreweryHouse$Program" "next" "[I" : Cond) ∈ lw_gd := tg_2 (i := 213) rfl rfl
set_option maxRecDepth 100000 in
theorem mw_455 : (.fieldLink "BreweryHouse$Run" 205 "BreweryHouse$Program" "number" "[J" : Cond) ∈ lw_gd := tg_2 (i := 215) rfl rfl
set_option maxRecDepth 100000 in
theorem mw_456 : (.fieldLink "BreweryHouse$ProgramReader" 247 "BreweryHouse$Program" "number" "[J" : Cond) ∈ lw_gd := tg_2 (i := 216) rfl rfl
set_option maxRecDepth 100000 in
theorem mw_457 : (.fieldLink "BreweryHouse$Program" 65 "BreweryHouse$Program" "names" "I" : Cond) ∈ lw_gd := tg_2 (i := 217) rfl rfl
set_option maxRecDepth 100000 in
theorem mw_458 : (.fieldLink "BreweryHouse$ProgramReader" 182 "BreweryHouse$Program" "names" "I" : Cond) ∈ lw_gd := tg_2 (i := 218) rfl rfl
set_option maxRecDepth 100000 in
theorem mw_459 : (.fieldLink "BreweryHouse" 292 "BreweryHouse$Program" "names" "I" : Cond) ∈ lw_gd := tg_2 (i := 219) rfl rfl
set_option maxRecDepth 100000 in
theorem mw_460 : (.fieldLink "BreweryHouse$Program" 38 "BreweryHouse$Program" "nameCode" "[J" : Cond) ∈ lw_gd := tg_2 (i := 220) rfl rfl
set_option maxRecDepth 100000 in
theorem mw_461 : (.fieldLink "BreweryHouse$Program" 41 "BreweryHouse$Program" "nameKind" "[I" : Cond) ∈ lw_gd := tg_2 (i := 221) rfl rfl
set_option maxRecDepth 100000 in
theorem mw_462 : (.fieldLink "BreweryHouse$ProgramReader" 185 "BreweryHouse$Program" "nameKind" "[I" : Cond) ∈ lw_gd := tg_2 (i := 222) rfl rfl
set_option maxRecDepth 100000 in
theorem mw_463 : (.fieldLink "BreweryHouse$Program" 44 "BreweryHouse$Program" "nameUnit" "[I" : Cond) ∈ lw_gd := tg_2 (i := 223) rfl rfl
set_option maxRecDepth 100000 in
theorem mw_464 : (.fieldLink "BreweryHouse$ProgramReader" 212 "BreweryHouse$Program" "nameUnit" "[I" : Cond) ∈ lw_gd := tg_2 (i := 224) rfl rfl
set_option maxRecDepth 100000 in
theorem mw_465 : (.fieldLink "BreweryHouse$Program" 47 "BreweryHouse$Program" "nameBlock" "[I" : Cond) ∈ lw_gd := tg_2 (i := 225) rfl rfl
set_option maxRecDepth 100000 in
theorem mw_466 : (.fieldLink "BreweryHouse$ProgramReader" 225 "BreweryHouse$Program" "nameBlock" "[I" : Cond) ∈ lw_gd := tg_2 (i := 226) rfl rfl
set_option maxRecDepth 100000 in
theorem mw_467 : (.fieldLink "BreweryHouse$Program" 50 "BreweryHouse$Program" "worth" "[J" : Cond) ∈ lw_gd := tg_2 (i := 227) rfl rfl
set_option maxRecDepth 100000 in
theorem mw_468 : (.fieldLink "BreweryHouse" 247 "BreweryHouse$Program" "worth" "[J" : Cond) ∈ lw_gd := tg_2 (i := 228) rfl rfl
set_option maxRecDepth 100000 in
theorem mw_469 : (.fieldLink "BreweryHouse$Run" 193 "BreweryHouse$Program" "worth" "[J" : Cond) ∈ lw_gd := tg_2 (i := 229) rfl rfl
set_option maxRecDepth 100000 in
theorem mw_470 : (.fieldLink "BreweryHouse$Program" 53 "BreweryHouse$Program" "senseWhat" "[I" : Cond) ∈ lw_gd := tg_2 (i := 230) rfl rfl
set_option maxRecDepth 100000 in
theorem mw_471 : (.fieldLink "BreweryHouse" 241 "BreweryHouse$Program" "senseWhat" "[I" : Cond) ∈ lw_gd := tg_2 (i := 231) rfl rfl
set_option maxRecDepth 100000 in
theorem mw_473 : (.fieldLink "BreweryHouse" 244 "BreweryHouse$Program" "senseX" "[I" : Cond) ∈ lw_gd := tg_2 (i := 233) rfl rfl
set_option maxRecDepth 100000 in
theorem mw_511 : (.fieldLink "BreweryHouse$Run" 54 "BreweryHouse$Run" "acts" "LBreweryHouse$Acts;" : Cond) ∈ lw_gd := tg_3 (i := 31) rfl rfl
set_option maxRecDepth 100000 in
theorem mw_512 : (.fieldLink "BreweryHouse$Run" 58 "BreweryHouse$Run" "alarms" "LBreweryHouse$Alarms;" : Cond) ∈ lw_gd := tg_3 (i := 32) rfl rfl
set_option maxRecDepth 100000 in
theorem mw_513 : (.fieldLink "BreweryHouse$Run" 62 "BreweryHouse$Run" "stock" "LBreweryHouse$Stock;" : Cond) ∈ lw_gd := tg_3 (i := 33) rfl rfl
set_option maxRecDepth 100000 in
theorem mw_514 : (.fieldLink "BreweryHouse$Run" 12 "BreweryHouse$Run" "program" "LBreweryHouse$Program;" : Cond) ∈ lw_gd := tg_3 (i := 34) rfl rfl
set_option maxRecDepth 100000 in
theorem mw_515 : (.fieldLink "BreweryHouse" 183 "BreweryHouse$Run" "program" "LBreweryHouse$Program;" : Cond) ∈ lw_gd := tg_3 (i := 35) rfl rfl
set_option maxRecDepth 100000 in
theorem mw_516 : (.fieldLink "BreweryHouse$Run" 18 "BreweryHouse$Run" "state" "I" : Cond) ∈ lw_gd := tg_3 (i := 36) rfl rfl
set_option maxRecDepth 100000 in
theorem mw_517 : (.fieldLink "BreweryHouse" 161 "BreweryHouse$Run" "state" "I" : Cond) ∈ lw_gd := tg_3 (i := 37) rfl rfl
set_option maxRecDepth 100000 in
theorem mw_518 : (.fieldLink "BreweryHouse$Run" 66 "BreweryHouse$Run" "parts" "I" : Cond) ∈ lw_gd := tg_3 (i := 38) rfl rfl
set_option maxRecDepth 100000 in
theorem mw_519 : (.fieldLink "BreweryHouse$Run" 22 "BreweryHouse$Run" "node" "[I" : Cond) ∈ lw_gd := tg_3 (i := 39) rfl rfl
set_option maxRecDepth 100000 in
theorem mw_520 : (.fieldLink "BreweryHouse$Run" 26 "BreweryHouse$Run" "first" "[I" : Cond) ∈ lw_gd := tg_3 (i := 40) rfl rfl
set_option maxRecDepth 100000 in
theorem mw_521 : (.fieldLink "BreweryHouse$Run" 29 "BreweryHouse$Run" "next" "[I" : Cond) ∈ lw_gd := tg_3 (i := 41) rfl rfl
set_option maxRecDepth 100000 in
theorem mw_522 : (.fieldLink "BreweryHouse$Run" 32 "BreweryHouse$Run" "stage" "[I" : Cond) ∈ lw_gd := tg_3 (i := 42) rfl rfl
set_option maxRecDepth 100000 in
theorem mw_523 : (.fieldLink "BreweryHouse$Run" 35 "BreweryHouse$Run" "current" "[I" : Cond) ∈ lw_gd := tg_3 (i := 43) rfl rfl
set_option maxRecDepth 100000 in
theorem mw_524 : (.fieldLink "BreweryHouse$Run" 38 "BreweryHouse$Run" "count" "[J" : Cond) ∈ lw_gd := tg_3 (i := 44) rfl rfl
set_option maxRecDepth 100000 in
theorem mw_525 : (.fieldLink "BreweryHouse$Run" 42 "BreweryHouse$Run" "length" "[J" : Cond) ∈ lw_gd := tg_3 (i := 45) rfl rfl
set_option maxRecDepth 100000 in
theorem mw_526 : (.fieldLink "BreweryHouse$Run" 45 "BreweryHouse$Run" "base" "[J" : Cond) ∈ lw_gd := tg_3 (i := 46) rfl rfl
set_option maxRecDepth 100000 in
theorem mw_527 : (.fieldLink "BreweryHouse$Run" 48 "BreweryHouse$Run" "goal" "[J" : Cond) ∈ lw_gd := tg_3 (i := 47) rfl rfl
set_option maxRecDepth 100000 in
theorem mw_528 : (.fieldLink "BreweryHouse$Run" 216 "BreweryHouse$Run" "skipped" "I" : Cond) ∈ lw_gd := tg_3 (i := 48) rfl rfl
set_option maxRecDepth 100000 in
theorem mw_529 : (.fieldLink "BreweryHouse$Run" 51 "BreweryHouse$Run" "stack" "[J" : Cond) ∈ lw_gd := tg_3 (i := 49) rfl rfl
set_option maxRecDepth 100000 in
theorem mw_530 : (.fieldLink "BreweryHouse$Run" 85 "BreweryHouse$Run" "walks" "J" : Cond) ∈ lw_gd := tg_3 (i := 50) rfl rfl
set_option maxRecDepth 100000 in
theorem mw_531 : (.fieldLink "BreweryHouse$Run" 89 "BreweryHouse$Run" "holding" "Z" : Cond) ∈ lw_gd := tg_3 (i := 51) rfl rfl
set_option maxRecDepth 100000 in
theorem mw_532 : (.fieldLink "BreweryHouse$Run" 93 "BreweryHouse$Run" "begun" "I" : Cond) ∈ lw_gd := tg_3 (i := 52) rfl rfl
set_option maxRecDepth 100000 in
theorem mw_533 : (.fieldLink "BreweryHouse$Run" 96 "BreweryHouse$Run" "actsBegun" "I" : Cond) ∈ lw_gd := tg_3 (i := 53) rfl rfl
set_option maxRecDepth 100000 in
theorem mw_585 : (.instanceMethod y_Sg_length : Cond) ∈ lw_gd := tg_3 (i := 105) rfl rfl
set_option maxRecDepth 100000 in
theorem mw_586 : (.selects "java/lang/String" y_Sg_length y_Sg_length : Cond) ∈ lw_gd := tg_3 (i := 106) rfl rfl
set_option maxRecDepth 100000 in
theorem mw_587 : (.code y_Sg_length b_Sg_length 1 (some .int) : Cond) ∈ lw_gd := tg_3 (i := 107) rfl rfl
set_option maxRecDepth 100000 in
theorem mw_595 : (.instanceMethod y_Sg_charAt : Cond) ∈ lw_gd := tg_3 (i := 115) rfl rfl
set_option maxRecDepth 100000 in
theorem mw_596 : (.selects "java/lang/String" y_Sg_charAt y_Sg_charAt : Cond) ∈ lw_gd := tg_3 (i := 116) rfl rfl
set_option maxRecDepth 100000 in
theorem mw_597 : (.code y_Sg_charAt b_Sg_charAt 2 (some .char) : Cond) ∈ lw_gd := tg_3 (i := 117) rfl rfl
set_option maxRecDepth 100000 in
theorem mw_632 : (.constantLong "BreweryHouse$ProgramReader" 34 37 : Cond) ∈ lw_gd := tg_3 (i := 152) rfl rfl
set_option maxRecDepth 100000 in
theorem mw_633 : (.methodLink "BreweryHouse$ProgramReader" 36 y_Rd_digitOf : Cond) ∈ lw_gd := tg_3 (i := 153) rfl rfl
set_option maxRecDepth 100000 in
theorem mw_634 : (.static y_Rd_digitOf : Cond) ∈ lw_gd := tg_3 (i := 154) rfl rfl
set_option maxRecDepth 100000 in
theorem mw_635 : (.code y_Rd_digitOf b_Rd_digitOf 1 (some .int) : Cond) ∈ lw_gd := tg_3 (i := 155) rfl rfl
set_option maxRecDepth 100000 in
theorem mw_636 : (.fieldLink "BreweryHouse$ProgramReader" 40 "BreweryHouse$ProgramReader" "tape" "LBreweryHouse$Tape;" : Cond) ∈ lw_gd := tg_3 (i := 156) rfl rfl
set_option maxRecDepth 100000 in
theorem mw_637 : (.fieldLink "BreweryHouse$ProgramReader" 44 "BreweryHouse$ProgramReader" "program" "LBreweryHouse$Program;" : Cond) ∈ lw_gd := tg_3 (i := 157) rfl rfl
set_option maxRecDepth 100000 in
theorem mw_638 : (.fieldLink "BreweryHouse$ProgramReader" 53 "BreweryHouse$ProgramReader" "at" "I" : Cond) ∈ lw_gd := tg_3 (i := 158) rfl rfl
set_option maxRecDepth 100000 in
theorem mw_639 : (.fieldLink "BreweryHouse$ProgramReader" 66 "BreweryHouse$ProgramReader" "word" "I" : Cond) ∈ lw_gd := tg_3 (i := 159) rfl rfl
set_option maxRecDepth 100000 in
theorem mw_640 : (.fieldLink "BreweryHouse$ProgramReader" 111 "BreweryHouse$ProgramReader" "place" "I" : Cond) ∈ lw_gd := tg_3 (i := 160) rfl rfl
set_option maxRecDepth 100000 in
theorem mw_641 : (.fieldLink "BreweryHouse$ProgramReader" 143 "BreweryHouse$ProgramReader" "code" "J" : Cond) ∈ lw_gd := tg_3 (i := 161) rfl rfl
set_option maxRecDepth 100000 in
theorem mw_642 : (.fieldLink "BreweryHouse$ProgramReader" 147 "BreweryHouse$ProgramReader" "number" "J" : Cond) ∈ lw_gd := tg_3 (i := 162) rfl rfl
set_option maxRecDepth 100000 in
theorem mw_643 : (.fieldLink "BreweryHouse$ProgramReader" 156 "BreweryHouse$ProgramReader" "pointed" "Z" : Cond) ∈ lw_gd := tg_3 (i := 163) rfl rfl
set_option maxRecDepth 100000 in
theorem mw_644 : (.fieldLink "BreweryHouse$ProgramReader" 57 "BreweryHouse$ProgramReader" "open" "I" : Cond) ∈ lw_gd := tg_3 (i := 164) rfl rfl
set_option maxRecDepth 100000 in
theorem mw_645 : (.fieldLink "BreweryHouse$ProgramReader" 60 "BreweryHouse$ProgramReader" "wrong" "I" : Cond) ∈ lw_gd := tg_3 (i := 165) rfl rfl
set_option maxRecDepth 100000 in
theorem mw_646 : (.fieldLink "BreweryHouse$ProgramReader" 9 "BreweryHouse$ProgramReader" "size" "[I" : Cond) ∈ lw_gd := tg_3 (i := 166) rfl rfl
set_option maxRecDepth 100000 in
theorem mw_647 : (.fieldLink "BreweryHouse$ProgramReader" 15 "BreweryHouse$ProgramReader" "deep" "[I" : Cond) ∈ lw_gd := tg_3 (i := 167) rfl rfl
set_option maxRecDepth 100000 in
theorem mw_648 : (.fieldLink "BreweryHouse$ProgramReader" 18 "BreweryHouse$ProgramReader" "keywordCode" "[J" : Cond) ∈ lw_gd := tg_3 (i := 168) rfl rfl
set_option maxRecDepth 100000 in
theorem mw_684 : (.fieldLink "BreweryHouse" 10 "BreweryHouse" "tape" "LBreweryHouse$Tape;" : Cond) ∈ lw_gd := tg_3 (i := 204) rfl rfl
set_option maxRecDepth 100000 in
theorem mw_685 : (.fieldLink "BreweryHouse" 19 "BreweryHouse" "alarms" "LBreweryHouse$Alarms;" : Cond) ∈ lw_gd := tg_3 (i := 205) rfl rfl
set_option maxRecDepth 100000 in
theorem mw_686 : (.fieldLink "BreweryHouse" 26 "BreweryHouse" "stock" "LBreweryHouse$Stock;" : Cond) ∈ lw_gd := tg_3 (i := 206) rfl rfl
set_option maxRecDepth 100000 in
theorem mw_687 : (.fieldLink "BreweryHouse" 35 "BreweryHouse" "ways" "LBreweryHouse$Ways;" : Cond) ∈ lw_gd := tg_3 (i := 207) rfl rfl
set_option maxRecDepth 100000 in
theorem mw_688 : (.fieldLink "BreweryHouse" 44 "BreweryHouse" "safety" "LBreweryHouse$Safety;" : Cond) ∈ lw_gd := tg_3 (i := 208) rfl rfl
set_option maxRecDepth 100000 in
theorem mw_689 : (.fieldLink "BreweryHouse" 53 "BreweryHouse" "acts" "LBreweryHouse$Acts;" : Cond) ∈ lw_gd := tg_3 (i := 209) rfl rfl
set_option maxRecDepth 100000 in
theorem mw_690 : (.fieldLink "BreweryHouse" 62 "BreweryHouse" "run" "LBreweryHouse$Run;" : Cond) ∈ lw_gd := tg_3 (i := 210) rfl rfl
set_option maxRecDepth 100000 in
theorem mw_691 : (.fieldLink "BreweryHouse" 69 "BreweryHouse" "reader" "LBreweryHouse$ProgramReader;" : Cond) ∈ lw_gd := tg_3 (i := 211) rfl rfl
set_option maxRecDepth 100000 in
theorem mw_692 : (.fieldLink "BreweryHouse" 76 "BreweryHouse" "sparePlant" "LBreweryHouse$Plant;" : Cond) ∈ lw_gd := tg_3 (i := 212) rfl rfl
set_option maxRecDepth 100000 in
theorem mw_693 : (.fieldLink "BreweryHouse" 83 "BreweryHouse" "spareRows" "LBreweryHouse$Rows;" : Cond) ∈ lw_gd := tg_3 (i := 213) rfl rfl
set_option maxRecDepth 100000 in
theorem mw_694 : (.fieldLink "BreweryHouse" 90 "BreweryHouse" "spareProgram" "LBreweryHouse$Program;" : Cond) ∈ lw_gd := tg_3 (i := 214) rfl rfl
set_option maxRecDepth 100000 in
theorem mw_695 : (.fieldLink "BreweryHouse" 94 "BreweryHouse" "plantText" "[B" : Cond) ∈ lw_gd := tg_3 (i := 215) rfl rfl
set_option maxRecDepth 100000 in
theorem mw_696 : (.fieldLink "BreweryHouse" 168 "BreweryHouse" "plantTextLength" "I" : Cond) ∈ lw_gd := tg_3 (i := 216) rfl rfl
set_option maxRecDepth 100000 in
theorem mw_697 : (.fieldLink "BreweryHouse" 98 "BreweryHouse" "watchWhat" "[I" : Cond) ∈ lw_gd := tg_3 (i := 217) rfl rfl
set_option maxRecDepth 100000 in
theorem mw_698 : (.fieldLink "BreweryHouse" 102 "BreweryHouse" "watchX" "[I" : Cond) ∈ lw_gd := tg_3 (i := 218) rfl rfl
set_option maxRecDepth 100000 in
theorem mw_699 : (.fieldLink "BreweryHouse" 105 "BreweryHouse" "watchLeast" "[J" : Cond) ∈ lw_gd := tg_3 (i := 219) rfl rfl
set_option maxRecDepth 100000 in
theorem mw_737 : (.methodLink "BreweryHouse" 115 y_Tp_hasRoom : Cond) ∈ lw_gd := tg_4 (i := 17) rfl rfl
set_option maxRecDepth 100000 in
theorem mw_738 : (.instanceMethod y_Tp_hasRoom : Cond) ∈ lw_gd := tg_4 (i := 18) rfl rfl
set_option maxRecDepth 100000 in
theorem mw_739 : (.selects "BreweryHouse$Tape" y_Tp_hasRoom y_Tp_hasRoom : Cond) ∈ lw_gd := tg_4 (i := 19) rfl rfl
set_option maxRecDepth 100000 in
theorem mw_740 : (.code y_Tp_hasRoom b_Tp_hasRoom 1 (some .boolean) : Cond) ∈ lw_gd := tg_4 (i := 20) rfl rfl
set_option maxRecDepth 100000 in
theorem mw_741 : (.methodLink "BreweryHouse" 119 y_Tp_put : Cond) ∈ lw_gd := tg_4 (i := 21) rfl rfl
set_option maxRecDepth 100000 in
theorem mw_742 : (.instanceMethod y_Tp_put : Cond) ∈ lw_gd := tg_4 (i := 22) rfl rfl
set_option maxRecDepth 100000 in
theorem mw_743 : (.selects "BreweryHouse$Tape" y_Tp_put y_Tp_put : Cond) ∈ lw_gd := tg_4 (i := 23) rfl rfl
set_option maxRecDepth 100000 in
theorem mw_744 : (.code y_Tp_put b_Tp_put 3 none : Cond) ∈ lw_gd := tg_4 (i := 24) rfl rfl
set_option maxRecDepth 100000 in
theorem mw_749 : (.methodLink "BreweryHouse" 130 y_Tp_isText : Cond) ∈ lw_gd := tg_4 (i := 29) rfl rfl
set_option maxRecDepth 100000 in
theorem mw_750 : (.instanceMethod y_Tp_isText : Cond) ∈ lw_gd := tg_4 (i := 30) rfl rfl
set_option maxRecDepth 100000 in
theorem mw_751 : (.selects "BreweryHouse$Tape" y_Tp_isText y_Tp_isText : Cond) ∈ lw_gd := tg_4 (i := 31) rfl rfl
set_option maxRecDepth 100000 in
theorem mw_752 : (.code y_Tp_isText b_Tp_isText 3 (some .boolean) : Cond) ∈ lw_gd := tg_4 (i := 32) rfl rfl
set_option maxRecDepth 100000 in
theorem mw_753 : (.methodLink "BreweryHouse$Tape" 22 y_Tp_at : Cond) ∈ lw_gd := tg_4 (i := 33) rfl rfl
set_option maxRecDepth 100000 in
theorem mw_754 : (.instanceMethod y_Tp_at : Cond) ∈ lw_gd := tg_4 (i := 34) rfl rfl
set_option maxRecDepth 100000 in
theorem mw_755 : (.selects "BreweryHouse$Tape" y_Tp_at y_Tp_at : Cond) ∈ lw_gd := tg_4 (i := 35) rfl rfl
set_option maxRecDepth 100000 in
theorem mw_756 : (.code y_Tp_at b_Tp_at 2 (some .int) : Cond) ∈ lw_gd := tg_4 (i := 36) rfl rfl
set_option maxRecDepth 100000 in
theorem mw_757 : (.methodLink "BreweryHouse" 133 y_Pl_read : Cond) ∈ lw_gd := tg_4 (i := 37) rfl rfl
set_option maxRecDepth 100000 in
theorem mw_758 : (.instanceMethod y_Pl_read : Cond) ∈ lw_gd := tg_4 (i := 38) rfl rfl
set_option maxRecDepth 100000 in
theorem mw_759 : (.selects "BreweryHouse$Plant" y_Pl_read y_Pl_read : Cond) ∈ lw_gd := tg_4 (i := 39) rfl rfl
set_option maxRecDepth 100000 in
theorem mw_760 : (.code y_Pl_read b_Pl_read 3 (some .int) : Cond) ∈ lw_gd := tg_4 (i := 40) rfl rfl
set_option maxRecDepth 100000 in
theorem mw_761 : (.methodLink "BreweryHouse$Plant" 52 y_Pl_readLine : Cond) ∈ lw_gd := tg_4 (i := 41) rfl rfl
set_option maxRecDepth 100000 in
theorem mw_763 : (.instanceMethod y_Pl_readLine : Cond) ∈ lw_gd := tg_4 (i := 43) rfl rfl
set_option maxRecDepth 100000 in
theorem mw_764 : (.code y_Pl_readLine b_Pl_readLine 1 (some .boolean) : Cond) ∈ lw_gd := tg_4 (i := 44) rfl rfl
set_option maxRecDepth 100000 in
theorem mw_765 : (.methodLink "BreweryHouse$Plant" 56 y_Tp_at : Cond) ∈ lw_gd := tg_4 (i := 45) rfl rfl
set_option maxRecDepth 100000 in
theorem mw_767 : (.methodLink "BreweryHouse$Plant" 61 y_Pl_takes : Cond) ∈ lw_gd := tg_4 (i := 47) rfl rfl
set_option maxRecDepth 100000 in
theorem mw_769 : (.instanceMethod y_Pl_takes : Cond) ∈ lw_gd := tg_4 (i := 49) rfl rfl
set_option maxRecDepth 100000 in
theorem mw_770 : (.code y_Pl_takes b_Pl_takes 3 (some .boolean) : Cond) ∈ lw_gd := tg_4 (i := 50) rfl rfl
set_option maxRecDepth 100000 in
theorem mw_771 : (.methodLink "BreweryHouse$Plant" 97 y_Sg_length : Cond) ∈ lw_gd := tg_4 (i := 51) rfl rfl
set_option maxRecDepth 100000 in
theorem mw_772 : (.methodLink "BreweryHouse$Plant" 103 y_Sg_charAt : Cond) ∈ lw_gd := tg_4 (i := 52) rfl rfl
set_option maxRecDepth 100000 in
theorem mw_773 : (.methodLink "BreweryHouse$Plant" 65 y_Pl_takesNumber : Cond) ∈ lw_gd := tg_4 (i := 53) rfl rfl
set_option maxRecDepth 100000 in
theorem mw_775 : (.instanceMethod y_Pl_takesNumber : Cond) ∈ lw_gd := tg_4 (i := 55) rfl rfl
set_option maxRecDepth 100000 in
theorem mw_776 : (.code y_Pl_takesNumber b_Pl_takesNumber 2 (some .boolean) : Cond) ∈ lw_gd := tg_4 (i := 56) rfl rfl
set_option maxRecDepth 100000 in
theorem mw_777 : (.methodLink "BreweryHouse$Plant" 107 y_Tp_isDigit : Cond) ∈ lw_gd := tg_4 (i := 57) rfl rfl
set_option maxRecDepth 100000 in
theorem mw_778 : (.static y_Tp_isDigit : Cond) ∈ lw_gd := tg_4 (i := 58) rfl rfl
set_option maxRecDepth 100000 in
theorem mw_779 : (.code y_Tp_isDigit b_Tp_isDigit 1 (some .boolean) : Cond) ∈ lw_gd := tg_4 (i := 59) rfl rfl
set_option maxRecDepth 100000 in
theorem mw_780 : (.methodLink "BreweryHouse$Plant" 68 y_Pl_endsLine : Cond) ∈ lw_gd := tg_4 (i := 60) rfl rfl
set_option maxRecDepth 100000 in
theorem mw_782 : (.instanceMethod y_Pl_endsLine : Cond) ∈ lw_gd := tg_4 (i := 62) rfl rfl
set_option maxRecDepth 100000 in
theorem mw_783 : (.code y_Pl_endsLine b_Pl_endsLine 1 (some .boolean) : Cond) ∈ lw_gd := tg_4 (i := 63) rfl rfl
set_option maxRecDepth 100000 in
theorem mw_784 : (.constant "BreweryHouse$Plant" 74 100000 : Cond) ∈ lw_gd := tg_4 (i := 64) rfl rfl
set_option maxRecDepth 100000 in
theorem mw_785 : (.methodLink "BreweryHouse$Plant" 75 y_Pl_addThing : Cond) ∈ lw_gd := tg_4 (i := 65) rfl rfl
set_option maxRecDepth 100000 in
theorem mw_787 : (.instanceMethod y_Pl_addThing : Cond) ∈ lw_gd := tg_4 (i := 67) rfl rfl
set_option maxRecDepth 100000 in
theorem mw_788 : (.code y_Pl_addThing b_Pl_addThing 4 (some .boolean) : Cond) ∈ lw_gd := tg_4 (i := 68) rfl rfl
set_option maxRecDepth 100000 in
theorem mw_792 : (.methodLink "BreweryHouse$Plant" 85 y_Pl_readPipe : Cond) ∈ lw_gd := tg_4 (i := 72) rfl rfl
set_option maxRecDepth 100000 in
theorem mw_794 : (.instanceMethod y_Pl_readPipe : Cond) ∈ lw_gd := tg_4 (i := 74) rfl rfl
set_option maxRecDepth 100000 in
theorem mw_795 : (.code y_Pl_readPipe b_Pl_readPipe 3 (some .boolean) : Cond) ∈ lw_gd := tg_4 (i := 75) rfl rfl
set_option maxRecDepth 100000 in
theorem mw_796 : (.methodLink "BreweryHouse$Plant" 88 y_Pl_takesPipeEnd : Cond) ∈ lw_gd := tg_4 (i := 76) rfl rfl
set_option maxRecDepth 100000 in
theorem mw_798 : (.instanceMethod y_Pl_takesPipeEnd : Cond) ∈ lw_gd := tg_4 (i := 78) rfl rfl
set_option maxRecDepth 100000 in
theorem mw_799 : (.code y_Pl_takesPipeEnd b_Pl_takesPipeEnd 1 (some .boolean) : Cond) ∈ lw_gd := tg_4 (i := 79) rfl rfl
set_option maxRecDepth 100000 in
theorem mw_801 : (.methodLink "BreweryHouse$Plant" 93 y_Pl_addPipe : Cond) ∈ lw_gd := tg_4 (i := 81) rfl rfl
set_option maxRecDepth 100000 in
theorem mw_803 : (.instanceMethod y_Pl_addPipe : Cond) ∈ lw_gd := tg_4 (i := 83) rfl rfl
set_option maxRecDepth 100000 in
theorem mw_804 : (.code y_Pl_addPipe b_Pl_addPipe 4 (some .boolean) : Cond) ∈ lw_gd := tg_4 (i := 84) rfl rfl
set_option maxRecDepth 100000 in
theorem mw_805 : (.methodLink "BreweryHouse$Plant" 111 y_Pl_joins : Cond) ∈ lw_gd := tg_4 (i := 85) rfl rfl
set_option maxRecDepth 100000 in
theorem mw_807 : (.instanceMethod y_Pl_joins : Cond) ∈ lw_gd := tg_4 (i := 87) rfl rfl
set_option maxRecDepth 100000 in
theorem mw_808 : (.code y_Pl_joins b_Pl_joins 3 (some .boolean) : Cond) ∈ lw_gd := tg_4 (i := 88) rfl rfl
set_option maxRecDepth 100000 in
theorem mw_811 : (.methodLink "BreweryHouse" 137 y_Ro_read : Cond) ∈ lw_gd := tg_4 (i := 91) rfl rfl
set_option maxRecDepth 100000 in
theorem mw_812 : (.instanceMethod y_Ro_read : Cond) ∈ lw_gd := tg_4 (i := 92) rfl rfl
set_option maxRecDepth 100000 in
theorem mw_813 : (.selects "BreweryHouse$Rows" y_Ro_read y_Ro_read : Cond) ∈ lw_gd := tg_4 (i := 93) rfl rfl
set_option maxRecDepth 100000 in
theorem mw_814 : (.code y_Ro_read b_Ro_read 3 (some .int) : Cond) ∈ lw_gd := tg_4 (i := 94) rfl rfl
set_option maxRecDepth 100000 in
theorem mw_815 : (.methodLink "BreweryHouse$Rows" 76 y_Ro_nextWord : Cond) ∈ lw_gd := tg_4 (i := 95) rfl rfl
set_option maxRecDepth 100000 in
theorem mw_817 : (.instanceMethod y_Ro_nextWord : Cond) ∈ lw_gd := tg_4 (i := 97) rfl rfl
set_option maxRecDepth 100000 in
theorem mw_818 : (.code y_Ro_nextWord b_Ro_nextWord 1 none : Cond) ∈ lw_gd := tg_4 (i := 98) rfl rfl
set_option maxRecDepth 100000 in
theorem mw_819 : (.methodLink "BreweryHouse$Rows" 90 y_Tp_at : Cond) ∈ lw_gd := tg_4 (i := 99) rfl rfl
set_option maxRecDepth 100000 in
theorem mw_820 : (.methodLink "BreweryHouse$Rows" 94 y_Tp_isBlank : Cond) ∈ lw_gd := tg_4 (i := 100) rfl rfl
set_option maxRecDepth 100000 in
theorem mw_821 : (.static y_Tp_isBlank : Cond) ∈ lw_gd := tg_4 (i := 101) rfl rfl
set_option maxRecDepth 100000 in
theorem mw_822 : (.code y_Tp_isBlank b_Tp_isBlank 1 (some .boolean) : Cond) ∈ lw_gd := tg_4 (i := 102) rfl rfl
set_option maxRecDepth 100000 in
theorem mw_823 : (.methodLink "BreweryHouse$Rows" 97 y_Ro_isMark : Cond) ∈ lw_gd := tg_4 (i := 103) rfl rfl
set_option maxRecDepth 100000 in
theorem mw_824 : (.static y_Ro_isMark : Cond) ∈ lw_gd := tg_4 (i := 104) rfl rfl
set_option maxRecDepth 100000 in
theorem mw_825 : (.code y_Ro_isMark b_Ro_isMark 1 (some .boolean) : Cond) ∈ lw_gd := tg_4 (i := 105) rfl rfl
set_option maxRecDepth 100000 in
theorem mw_826 : (.methodLink "BreweryHouse$Rows" 87 y_Ro_readRow : Cond) ∈ lw_gd := tg_4 (i := 106) rfl rfl
set_option maxRecDepth 100000 in
theorem mw_828 : (.instanceMethod y_Ro_readRow : Cond) ∈ lw_gd := tg_4 (i := 108) rfl rfl
set_option maxRecDepth 100000 in
theorem mw_829 : (.code y_Ro_readRow b_Ro_readRow 1 none : Cond) ∈ lw_gd := tg_4 (i := 109) rfl rfl
set_option maxRecDepth 100000 in
theorem mw_830 : (.methodLink "BreweryHouse$Rows" 114 y_Ro_fail : Cond) ∈ lw_gd := tg_4 (i := 110) rfl rfl
set_option maxRecDepth 100000 in
theorem mw_832 : (.instanceMethod y_Ro_fail : Cond) ∈ lw_gd := tg_4 (i := 112) rfl rfl
set_option maxRecDepth 100000 in
theorem mw_833 : (.code y_Ro_fail b_Ro_fail 1 none : Cond) ∈ lw_gd := tg_4 (i := 113) rfl rfl
set_option maxRecDepth 100000 in
theorem mw_835 : (.methodLink "BreweryHouse$Rows" 122 y_Ro_takes : Cond) ∈ lw_gd := tg_4 (i := 115) rfl rfl
set_option maxRecDepth 100000 in
theorem mw_837 : (.instanceMethod y_Ro_takes : Cond) ∈ lw_gd := tg_4 (i := 117) rfl rfl
set_option maxRecDepth 100000 in
theorem mw_838 : (.code y_Ro_takes b_Ro_takes 2 (some .boolean) : Cond) ∈ lw_gd := tg_4 (i := 118) rfl rfl
set_option maxRecDepth 100000 in
theorem mw_839 : (.methodLink "BreweryHouse$Rows" 110 y_Ro_is : Cond) ∈ lw_gd := tg_4 (i := 119) rfl rfl
set_option maxRecDepth 100000 in
theorem mw_841 : (.instanceMethod y_Ro_is : Cond) ∈ lw_gd := tg_4 (i := 121) rfl rfl
set_option maxRecDepth 100000 in
theorem mw_842 : (.code y_Ro_is b_Ro_is 3 (some .boolean) : Cond) ∈ lw_gd := tg_4 (i := 122) rfl rfl
set_option maxRecDepth 100000 in
theorem mw_843 : (.methodLink "BreweryHouse$Rows" 100 y_Sg_length : Cond) ∈ lw_gd := tg_4 (i := 123) rfl rfl
set_option maxRecDepth 100000 in
theorem mw_844 : (.methodLink "BreweryHouse$Rows" 106 y_Sg_charAt : Cond) ∈ lw_gd := tg_4 (i := 124) rfl rfl
set_option maxRecDepth 100000 in
theorem mw_845 : (.methodLink "BreweryHouse$Rows" 125 y_Ro_readActs : Cond) ∈ lw_gd := tg_4 (i := 125) rfl rfl
set_option maxRecDepth 100000 in
theorem mw_847 : (.instanceMethod y_Ro_readActs : Cond) ∈ lw_gd := tg_4 (i := 127) rfl rfl
set_option maxRecDepth 100000 in
theorem mw_848 : (.code y_Ro_readActs b_Ro_readActs 3 none : Cond) ∈ lw_gd := tg_4 (i := 128) rfl rfl
set_option maxRecDepth 100000 in
theorem mw_850 : (.methodLink "BreweryHouse$Rows" 138 y_Ro_numberBehind : Cond) ∈ lw_gd := tg_4 (i := 130) rfl rfl
set_option maxRecDepth 100000 in
theorem mw_852 : (.instanceMethod y_Ro_numberBehind : Cond) ∈ lw_gd := tg_4 (i := 132) rfl rfl
set_option maxRecDepth 100000 in
theorem mw_853 : (.code y_Ro_numberBehind b_Ro_numberBehind 7 (some .int) : Cond) ∈ lw_gd := tg_4 (i := 133) rfl rfl
set_option maxRecDepth 100000 in
theorem mw_854 : (.methodLink "BreweryHouse$Rows" 117 y_Tp_isDigit : Cond) ∈ lw_gd := tg_4 (i := 134) rfl rfl
set_option maxRecDepth 100000 in
theorem mw_855 : (.methodLink "BreweryHouse$Rows" 133 y_Ro_readOr : Cond) ∈ lw_gd := tg_4 (i := 135) rfl rfl
set_option maxRecDepth 100000 in
theorem mw_857 : (.instanceMethod y_Ro_readOr : Cond) ∈ lw_gd := tg_4 (i := 137) rfl rfl
set_option maxRecDepth 100000 in
theorem mw_858 : (.code y_Ro_readOr b_Ro_readOr 2 none : Cond) ∈ lw_gd := tg_4 (i := 138) rfl rfl
set_option maxRecDepth 100000 in
theorem mw_859 : (.methodLink "BreweryHouse$Rows" 144 y_Ro_readAnd : Cond) ∈ lw_gd := tg_4 (i := 139) rfl rfl
set_option maxRecDepth 100000 in
theorem mw_861 : (.instanceMethod y_Ro_readAnd : Cond) ∈ lw_gd := tg_4 (i := 141) rfl rfl
set_option maxRecDepth 100000 in
theorem mw_862 : (.code y_Ro_readAnd b_Ro_readAnd 2 none : Cond) ∈ lw_gd := tg_4 (i := 142) rfl rfl
set_option maxRecDepth 100000 in
theorem mw_863 : (.methodLink "BreweryHouse$Rows" 153 y_Ro_readPart : Cond) ∈ lw_gd := tg_4 (i := 143) rfl rfl
set_option maxRecDepth 100000 in
theorem mw_865 : (.instanceMethod y_Ro_readPart : Cond) ∈ lw_gd := tg_4 (i := 145) rfl rfl
set_option maxRecDepth 100000 in
theorem mw_866 : (.code y_Ro_readPart b_Ro_readPart 3 none : Cond) ∈ lw_gd := tg_4 (i := 146) rfl rfl
set_option maxRecDepth 100000 in
theorem mw_869 : (.methodLink "BreweryHouse$Rows" 149 y_Ro_put : Cond) ∈ lw_gd := tg_4 (i := 149) rfl rfl
set_option maxRecDepth 100000 in
theorem mw_871 : (.instanceMethod y_Ro_put : Cond) ∈ lw_gd := tg_4 (i := 151) rfl rfl
set_option maxRecDepth 100000 in
theorem mw_872 : (.code y_Ro_put b_Ro_put 2 none : Cond) ∈ lw_gd := tg_4 (i := 152) rfl rfl
set_option maxRecDepth 100000 in
theorem mw_879 : (.methodLink "BreweryHouse" 138 y_Rd_read : Cond) ∈ lw_gd := tg_4 (i := 159) rfl rfl
set_option maxRecDepth 100000 in
theorem mw_880 : (.instanceMethod y_Rd_read : Cond) ∈ lw_gd := tg_4 (i := 160) rfl rfl
set_option maxRecDepth 100000 in
theorem mw_881 : (.selects "BreweryHouse$ProgramReader" y_Rd_read y_Rd_read : Cond) ∈ lw_gd := tg_4 (i := 161) rfl rfl
set_option maxRecDepth 100000 in
theorem mw_882 : (.code y_Rd_read b_Rd_read 9 (some .int) : Cond) ∈ lw_gd := tg_4 (i := 162) rfl rfl
set_option maxRecDepth 100000 in
theorem mw_883 : (.methodLink "BreweryHouse$ProgramReader" 48 y_Pr_clear : Cond) ∈ lw_gd := tg_4 (i := 163) rfl rfl
set_option maxRecDepth 100000 in
theorem mw_884 : (.instanceMethod y_Pr_clear : Cond) ∈ lw_gd := tg_4 (i := 164) rfl rfl
set_option maxRecDepth 100000 in
theorem mw_885 : (.selects "BreweryHouse$Program" y_Pr_clear y_Pr_clear : Cond) ∈ lw_gd := tg_4 (i := 165) rfl rfl
set_option maxRecDepth 100000 in
theorem mw_886 : (.code y_Pr_clear b_Pr_clear 1 none : Cond) ∈ lw_gd := tg_4 (i := 166) rfl rfl
set_option maxRecDepth 100000 in
theorem mw_887 : (.methodLink "BreweryHouse$ProgramReader" 63 y_Rd_nextWord : Cond) ∈ lw_gd := tg_4 (i := 167) rfl rfl
set_option maxRecDepth 100000 in
theorem mw_889 : (.instanceMethod y_Rd_nextWord : Cond) ∈ lw_gd := tg_4 (i := 169) rfl rfl
set_option maxRecDepth 100000 in
theorem mw_890 : (.code y_Rd_nextWord b_Rd_nextWord 2 none : Cond) ∈ lw_gd := tg_4 (i := 170) rfl rfl
set_option maxRecDepth 100000 in
theorem mw_891 : (.methodLink "BreweryHouse$ProgramReader" 119 y_Tp_at : Cond) ∈ lw_gd := tg_4 (i := 171) rfl rfl
set_option maxRecDepth 100000 in
theorem mw_892 : (.methodLink "BreweryHouse$ProgramReader" 121 y_Tp_isBlank : Cond) ∈ lw_gd := tg_4 (i := 172) rfl rfl
set_option maxRecDepth 100000 in
theorem mw_893 : (.methodLink "BreweryHouse$ProgramReader" 125 y_Tp_isLetter : Cond) ∈ lw_gd := tg_4 (i := 173) rfl rfl
set_option maxRecDepth 100000 in
theorem mw_894 : (.static y_Tp_isLetter : Cond) ∈ lw_gd := tg_4 (i := 174) rfl rfl
set_option maxRecDepth 100000 in
theorem mw_895 : (.code y_Tp_isLetter b_Tp_isLetter 1 (some .boolean) : Cond) ∈ lw_gd := tg_4 (i := 175) rfl rfl
set_option maxRecDepth 100000 in
theorem mw_896 : (.methodLink "BreweryHouse$ProgramReader" 128 y_Rd_scanLetters : Cond) ∈ lw_gd := tg_4 (i := 176) rfl rfl
set_option maxRecDepth 100000 in
theorem mw_898 : (.instanceMethod y_Rd_scanLetters : Cond) ∈ lw_gd := tg_4 (i := 178) rfl rfl
set_option maxRecDepth 100000 in
theorem mw_899 : (.code y_Rd_scanLetters b_Rd_scanLetters 3 none : Cond) ∈ lw_gd := tg_4 (i := 179) rfl rfl
set_option maxRecDepth 100000 in
theorem mw_900 : (.methodLink "BreweryHouse$ProgramReader" 131 y_Tp_isDigit : Cond) ∈ lw_gd := tg_4 (i := 180) rfl rfl
set_option maxRecDepth 100000 in
theorem mw_901 : (.methodLink "BreweryHouse$ProgramReader" 134 y_Rd_scanNumber : Cond) ∈ lw_gd := tg_4 (i := 181) rfl rfl
set_option maxRecDepth 100000 in
theorem mw_903 : (.instanceMethod y_Rd_scanNumber : Cond) ∈ lw_gd := tg_4 (i := 183) rfl rfl
set_option maxRecDepth 100000 in
theorem mw_904 : (.code y_Rd_scanNumber b_Rd_scanNumber 2 none : Cond) ∈ lw_gd := tg_4 (i := 184) rfl rfl
set_option maxRecDepth 100000 in
theorem mw_905 : (.constantLong "BreweryHouse$ProgramReader" 150 10 : Cond) ∈ lw_gd := tg_4 (i := 185) rfl rfl
set_option maxRecDepth 100000 in
theorem mw_906 : (.constantLong "BreweryHouse$ProgramReader" 152 48 : Cond) ∈ lw_gd := tg_4 (i := 186) rfl rfl
set_option maxRecDepth 100000 in
theorem mw_907 : (.constantLong "BreweryHouse$ProgramReader" 154 1000 : Cond) ∈ lw_gd := tg_4 (i := 187) rfl rfl
set_option maxRecDepth 100000 in
theorem mw_908 : (.methodLink "BreweryHouse$ProgramReader" 137 y_Rd_isMark : Cond) ∈ lw_gd := tg_4 (i := 188) rfl rfl
set_option maxRecDepth 100000 in
theorem mw_909 : (.static y_Rd_isMark : Cond) ∈ lw_gd := tg_4 (i := 189) rfl rfl
set_option maxRecDepth 100000 in
theorem mw_910 : (.code y_Rd_isMark b_Rd_isMark 1 (some .boolean) : Cond) ∈ lw_gd := tg_4 (i := 190) rfl rfl
set_option maxRecDepth 100000 in
theorem mw_911 : (.methodLink "BreweryHouse$ProgramReader" 140 y_Rd_refuseByte : Cond) ∈ lw_gd := tg_4 (i := 191) rfl rfl
set_option maxRecDepth 100000 in
theorem mw_913 : (.instanceMethod y_Rd_refuseByte : Cond) ∈ lw_gd := tg_4 (i := 193) rfl rfl
set_option maxRecDepth 100000 in
theorem mw_914 : (.code y_Rd_refuseByte b_Rd_refuseByte 2 none : Cond) ∈ lw_gd := tg_4 (i := 194) rfl rfl
set_option maxRecDepth 100000 in
theorem mw_915 : (.methodLink "BreweryHouse$ProgramReader" 108 y_Rd_fail : Cond) ∈ lw_gd := tg_4 (i := 195) rfl rfl
set_option maxRecDepth 100000 in
theorem mw_917 : (.instanceMethod y_Rd_fail : Cond) ∈ lw_gd := tg_4 (i := 197) rfl rfl
set_option maxRecDepth 100000 in
theorem mw_918 : (.code y_Rd_fail b_Rd_fail 1 none : Cond) ∈ lw_gd := tg_4 (i := 198) rfl rfl
set_option maxRecDepth 100000 in
theorem mw_919 : (.methodLink "BreweryHouse$ProgramReader" 69 y_Rd_takeNewName : Cond) ∈ lw_gd := tg_4 (i := 199) rfl rfl
set_option maxRecDepth 100000 in
theorem mw_921 : (.instanceMethod y_Rd_takeNewName : Cond) ∈ lw_gd := tg_4 (i := 201) rfl rfl
set_option maxRecDepth 100000 in
theorem mw_922 : (.code y_Rd_takeNewName b_Rd_takeNewName 3 (some .long) : Cond) ∈ lw_gd := tg_4 (i := 202) rfl rfl
set_option maxRecDepth 100000 in
theorem mw_923 : (.methodLink "BreweryHouse$ProgramReader" 178 y_Pr_find : Cond) ∈ lw_gd := tg_4 (i := 203) rfl rfl
set_option maxRecDepth 100000 in
theorem mw_924 : (.instanceMethod y_Pr_find : Cond) ∈ lw_gd := tg_4 (i := 204) rfl rfl
set_option maxRecDepth 100000 in
theorem mw_925 : (.selects "BreweryHouse$Program" y_Pr_find y_Pr_find : Cond) ∈ lw_gd := tg_4 (i := 205) rfl rfl
set_option maxRecDepth 100000 in
theorem mw_926 : (.code y_Pr_find b_Pr_find 4 (some .int) : Cond) ∈ lw_gd := tg_4 (i := 206) rfl rfl
set_option maxRecDepth 100000 in
theorem mw_927 : (.methodLink "BreweryHouse$ProgramReader" 73 y_Rd_readBlock : Cond) ∈ lw_gd := tg_4 (i := 207) rfl rfl
set_option maxRecDepth 100000 in
theorem mw_929 : (.instanceMethod y_Rd_readBlock : Cond) ∈ lw_gd := tg_4 (i := 209) rfl rfl
set_option maxRecDepth 100000 in
theorem mw_930 : (.code y_Rd_readBlock b_Rd_readBlock 7 (some .int) : Cond) ∈ lw_gd := tg_4 (i := 210) rfl rfl
set_option maxRecDepth 100000 in
theorem mw_931 : (.methodLink "BreweryHouse$ProgramReader" 91 y_Rd_readStatement : Cond) ∈ lw_gd := tg_4 (i := 211) rfl rfl
set_option maxRecDepth 100000 in
theorem mw_933 : (.instanceMethod y_Rd_readStatement : Cond) ∈ lw_gd := tg_4 (i := 213) rfl rfl
set_option maxRecDepth 100000 in
theorem mw_934 : (.code y_Rd_readStatement b_Rd_readStatement 2 (some .int) : Cond) ∈ lw_gd := tg_4 (i := 214) rfl rfl
set_option maxRecDepth 100000 in
theorem mw_935 : (.methodLink "BreweryHouse$ProgramReader" 191 y_Rd_readChange : Cond) ∈ lw_gd := tg_4 (i := 215) rfl rfl
set_option maxRecDepth 100000 in
theorem mw_937 : (.instanceMethod y_Rd_readChange : Cond) ∈ lw_gd := tg_4 (i := 217) rfl rfl
set_option maxRecDepth 100000 in
theorem mw_938 : (.code y_Rd_readChange b_Rd_readChange 5 (some .int) : Cond) ∈ lw_gd := tg_4 (i := 218) rfl rfl
set_option maxRecDepth 100000 in
theorem mw_939 : (.methodLink "BreweryHouse$ProgramReader" 206 y_Rd_takeName : Cond) ∈ lw_gd := tg_4 (i := 219) rfl rfl
set_option maxRecDepth 100000 in
theorem mw_941 : (.instanceMethod y_Rd_takeName : Cond) ∈ lw_gd := tg_4 (i := 221) rfl rfl
set_option maxRecDepth 100000 in
theorem mw_942 : (.code y_Rd_takeName b_Rd_takeName 3 (some .int) : Cond) ∈ lw_gd := tg_4 (i := 222) rfl rfl
set_option maxRecDepth 100000 in
theorem mw_943 : (.methodLink "BreweryHouse$ProgramReader" 209 y_Rd_readLevel : Cond) ∈ lw_gd := tg_4 (i := 223) rfl rfl
set_option maxRecDepth 100000 in
theorem mw_945 : (.instanceMethod y_Rd_readLevel : Cond) ∈ lw_gd := tg_4 (i := 225) rfl rfl
set_option maxRecDepth 100000 in
theorem mw_946 : (.code y_Rd_readLevel b_Rd_readLevel 9 (some .int) : Cond) ∈ lw_gd := tg_4 (i := 226) rfl rfl
set_option maxRecDepth 100000 in
theorem mw_947 : (.methodLink "BreweryHouse$ProgramReader" 228 y_Rd_readFactor : Cond) ∈ lw_gd := tg_4 (i := 227) rfl rfl
set_option maxRecDepth 100000 in
theorem mw_949 : (.instanceMethod y_Rd_readFactor : Cond) ∈ lw_gd := tg_4 (i := 229) rfl rfl
set_option maxRecDepth 100000 in
theorem mw_950 : (.code y_Rd_readFactor b_Rd_readFactor 7 (some .int) : Cond) ∈ lw_gd := tg_4 (i := 230) rfl rfl
set_option maxRecDepth 100000 in
theorem mw_951 : (.methodLink "BreweryHouse$ProgramReader" 238 y_Pr_hasValue : Cond) ∈ lw_gd := tg_4 (i := 231) rfl rfl
set_option maxRecDepth 100000 in
theorem mw_952 : (.instanceMethod y_Pr_hasValue : Cond) ∈ lw_gd := tg_4 (i := 232) rfl rfl
set_option maxRecDepth 100000 in
theorem mw_953 : (.selects "BreweryHouse$Program" y_Pr_hasValue y_Pr_hasValue : Cond) ∈ lw_gd := tg_4 (i := 233) rfl rfl
set_option maxRecDepth 100000 in
theorem mw_954 : (.code y_Pr_hasValue b_Pr_hasValue 2 (some .boolean) : Cond) ∈ lw_gd := tg_4 (i := 234) rfl rfl
set_option maxRecDepth 100000 in
theorem mw_955 : (.constantLong "BreweryHouse$ProgramReader" 241 60 : Cond) ∈ lw_gd := tg_4 (i := 235) rfl rfl
set_option maxRecDepth 100000 in
theorem mw_956 : (.constantLong "BreweryHouse$ProgramReader" 243 3600 : Cond) ∈ lw_gd := tg_4 (i := 236) rfl rfl
set_option maxRecDepth 100000 in
theorem mw_957 : (.constantLong "BreweryHouse$ProgramReader" 245 999999999999 : Cond) ∈ lw_gd := tg_4 (i := 237) rfl rfl
set_option maxRecDepth 100000 in
theorem mw_958 : (.methodLink "BreweryHouse$ProgramReader" 79 y_Rd_makeNode : Cond) ∈ lw_gd := tg_4 (i := 238) rfl rfl
set_option maxRecDepth 100000 in
theorem mw_960 : (.instanceMethod y_Rd_makeNode : Cond) ∈ lw_gd := tg_5 (i := 0) rfl rfl
set_option maxRecDepth 100000 in
theorem mw_961 : (.code y_Rd_makeNode b_Rd_makeNode 4 (some .int) : Cond) ∈ lw_gd := tg_5 (i := 1) rfl rfl
set_option maxRecDepth 100000 in
theorem mw_962 : (.methodLink "BreweryHouse$ProgramReader" 94 y_Ma_min : Cond) ∈ lw_gd := tg_5 (i := 2) rfl rfl
set_option maxRecDepth 100000 in
theorem mw_963 : (.static y_Ma_min : Cond) ∈ lw_gd := tg_5 (i := 3) rfl rfl
set_option maxRecDepth 100000 in
theorem mw_964 : (.code y_Ma_min b_Ma_min 2 (some .int) : Cond) ∈ lw_gd := tg_5 (i := 4) rfl rfl
set_option maxRecDepth 100000 in
theorem mw_965 : (.methodLink "BreweryHouse$ProgramReader" 231 y_Rd_levelOf : Cond) ∈ lw_gd := tg_5 (i := 5) rfl rfl
set_option maxRecDepth 100000 in
theorem mw_966 : (.static y_Rd_levelOf : Cond) ∈ lw_gd := tg_5 (i := 6) rfl rfl
set_option maxRecDepth 100000 in
theorem mw_967 : (.code y_Rd_levelOf b_Rd_levelOf 1 (some .int) : Cond) ∈ lw_gd := tg_5 (i := 7) rfl rfl
set_option maxRecDepth 100000 in
theorem mw_968 : (.methodLink "BreweryHouse$ProgramReader" 234 y_Rd_join : Cond) ∈ lw_gd := tg_5 (i := 8) rfl rfl
set_option maxRecDepth 100000 in
theorem mw_970 : (.instanceMethod y_Rd_join : Cond) ∈ lw_gd := tg_5 (i := 10) rfl rfl
set_option maxRecDepth 100000 in
theorem mw_971 : (.code y_Rd_join b_Rd_join 7 (some .int) : Cond) ∈ lw_gd := tg_5 (i := 11) rfl rfl
set_option maxRecDepth 100000 in
theorem mw_972 : (.methodLink "BreweryHouse$ProgramReader" 99 y_Ma_max : Cond) ∈ lw_gd := tg_5 (i := 12) rfl rfl
set_option maxRecDepth 100000 in
theorem mw_973 : (.static y_Ma_max : Cond) ∈ lw_gd := tg_5 (i := 13) rfl rfl
set_option maxRecDepth 100000 in
theorem mw_974 : (.code y_Ma_max b_Ma_max 2 (some .int) : Cond) ∈ lw_gd := tg_5 (i := 14) rfl rfl
set_option maxRecDepth 100000 in
theorem mw_975 : (.methodLink "BreweryHouse$ProgramReader" 215 y_Rd_demand : Cond) ∈ lw_gd := tg_5 (i := 15) rfl rfl
set_option maxRecDepth 100000 in
theorem mw_977 : (.instanceMethod y_Rd_demand : Cond) ∈ lw_gd := tg_5 (i := 17) rfl rfl
set_option maxRecDepth 100000 in
theorem mw_978 : (.code y_Rd_demand b_Rd_demand 3 none : Cond) ∈ lw_gd := tg_5 (i := 18) rfl rfl
set_option maxRecDepth 100000 in
theorem mw_979 : (.methodLink "BreweryHouse$ProgramReader" 83 y_Rd_take : Cond) ∈ lw_gd := tg_5 (i := 19) rfl rfl
set_option maxRecDepth 100000 in
theorem mw_981 : (.instanceMethod y_Rd_take : Cond) ∈ lw_gd := tg_5 (i := 21) rfl rfl
set_option maxRecDepth 100000 in
theorem mw_982 : (.code y_Rd_take b_Rd_take 2 none : Cond) ∈ lw_gd := tg_5 (i := 22) rfl rfl
set_option maxRecDepth 100000 in
theorem mw_983 : (.methodLink "BreweryHouse$ProgramReader" 219 y_Rd_giveRange : Cond) ∈ lw_gd := tg_5 (i := 23) rfl rfl
set_option maxRecDepth 100000 in
theorem mw_985 : (.instanceMethod y_Rd_giveRange : Cond) ∈ lw_gd := tg_5 (i := 25) rfl rfl
set_option maxRecDepth 100000 in
theorem mw_986 : (.code y_Rd_giveRange b_Rd_giveRange 4 (some .int) : Cond) ∈ lw_gd := tg_5 (i := 26) rfl rfl
set_option maxRecDepth 100000 in
theorem mw_987 : (.methodLink "BreweryHouse$ProgramReader" 194 y_Rd_readPause : Cond) ∈ lw_gd := tg_5 (i := 27) rfl rfl
set_option maxRecDepth 100000 in
theorem mw_989 : (.instanceMethod y_Rd_readPause : Cond) ∈ lw_gd := tg_5 (i := 29) rfl rfl
set_option maxRecDepth 100000 in
theorem mw_990 : (.code y_Rd_readPause b_Rd_readPause 4 (some .int) : Cond) ∈ lw_gd := tg_5 (i := 30) rfl rfl
set_option maxRecDepth 100000 in
theorem mw_991 : (.methodLink "BreweryHouse$ProgramReader" 197 y_Rd_readPar : Cond) ∈ lw_gd := tg_5 (i := 31) rfl rfl
set_option maxRecDepth 100000 in
theorem mw_993 : (.instanceMethod y_Rd_readPar : Cond) ∈ lw_gd := tg_5 (i := 33) rfl rfl
set_option maxRecDepth 100000 in
theorem mw_994 : (.code y_Rd_readPar b_Rd_readPar 7 (some .int) : Cond) ∈ lw_gd := tg_5 (i := 34) rfl rfl
set_option maxRecDepth 100000 in
theorem mw_995 : (.methodLink "BreweryHouse$ProgramReader" 200 y_Rd_readGuarded : Cond) ∈ lw_gd := tg_5 (i := 35) rfl rfl
set_option maxRecDepth 100000 in
theorem mw_997 : (.instanceMethod y_Rd_readGuarded : Cond) ∈ lw_gd := tg_5 (i := 37) rfl rfl
set_option maxRecDepth 100000 in
theorem mw_998 : (.code y_Rd_readGuarded b_Rd_readGuarded 7 (some .int) : Cond) ∈ lw_gd := tg_5 (i := 38) rfl rfl
set_option maxRecDepth 100000 in
theorem mw_999 : (.methodLink "BreweryHouse$ProgramReader" 203 y_Rd_readShort : Cond) ∈ lw_gd := tg_5 (i := 39) rfl rfl
set_option maxRecDepth 100000 in
theorem mw_1001 : (.instanceMethod y_Rd_readShort : Cond) ∈ lw_gd := tg_5 (i := 41) rfl rfl
set_option maxRecDepth 100000 in
theorem mw_1002 : (.code y_Rd_readShort b_Rd_readShort 4 (some .int) : Cond) ∈ lw_gd := tg_5 (i := 42) rfl rfl
set_option maxRecDepth 100000 in
theorem mw_1003 : (.constantLong "BreweryHouse$ProgramReader" 223 31000 : Cond) ∈ lw_gd := tg_5 (i := 43) rfl rfl
set_option maxRecDepth 100000 in
theorem mw_1004 : (.methodLink "BreweryHouse$ProgramReader" 76 y_Rd_takeUnit : Cond) ∈ lw_gd := tg_5 (i := 44) rfl rfl
set_option maxRecDepth 100000 in
theorem mw_1006 : (.instanceMethod y_Rd_takeUnit : Cond) ∈ lw_gd := tg_5 (i := 46) rfl rfl
set_option maxRecDepth 100000 in
theorem mw_1007 : (.code y_Rd_takeUnit b_Rd_takeUnit 2 (some .int) : Cond) ∈ lw_gd := tg_5 (i := 47) rfl rfl
set_option maxRecDepth 100000 in
theorem mw_1008 : (.methodLink "BreweryHouse$ProgramReader" 87 y_Pr_addName : Cond) ∈ lw_gd := tg_5 (i := 48) rfl rfl
set_option maxRecDepth 100000 in
theorem mw_1009 : (.instanceMethod y_Pr_addName : Cond) ∈ lw_gd := tg_5 (i := 49) rfl rfl
set_option maxRecDepth 100000 in
theorem mw_1010 : (.selects "BreweryHouse$Program" y_Pr_addName y_Pr_addName : Cond) ∈ lw_gd := tg_5 (i := 50) rfl rfl
set_option maxRecDepth 100000 in
theorem mw_1011 : (.code y_Pr_addName b_Pr_addName 6 none : Cond) ∈ lw_gd := tg_5 (i := 51) rfl rfl
set_option maxRecDepth 100000 in
theorem mw_1012 : (.methodLink "BreweryHouse" 141 y_Bh_takePlant : Cond) ∈ lw_gd := tg_5 (i := 52) rfl rfl
set_option maxRecDepth 100000 in
theorem mw_1014 : (.instanceMethod y_Bh_takePlant : Cond) ∈ lw_gd := tg_5 (i := 54) rfl rfl
set_option maxRecDepth 100000 in
theorem mw_1015 : (.code y_Bh_takePlant b_Bh_takePlant 2 (some .int) : Cond) ∈ lw_gd := tg_5 (i := 55) rfl rfl
set_option maxRecDepth 100000 in
theorem mw_1016 : (.methodLink "BreweryHouse" 154 y_St_renew : Cond) ∈ lw_gd := tg_5 (i := 56) rfl rfl
set_option maxRecDepth 100000 in
theorem mw_1017 : (.instanceMethod y_St_renew : Cond) ∈ lw_gd := tg_5 (i := 57) rfl rfl
set_option maxRecDepth 100000 in
theorem mw_1018 : (.selects "BreweryHouse$Stock" y_St_renew y_St_renew : Cond) ∈ lw_gd := tg_5 (i := 58) rfl rfl
set_option maxRecDepth 100000 in
theorem mw_1019 : (.code y_St_renew b_St_renew 2 none : Cond) ∈ lw_gd := tg_5 (i := 59) rfl rfl
set_option maxRecDepth 100000 in
theorem mw_1020 : (.methodLink "BreweryHouse$Stock" 57 y_Ar_fill1 : Cond) ∈ lw_gd := tg_5 (i := 60) rfl rfl
set_option maxRecDepth 100000 in
theorem mw_1021 : (.static y_Ar_fill1 : Cond) ∈ lw_gd := tg_5 (i := 61) rfl rfl
set_option maxRecDepth 100000 in
theorem mw_1022 : (.code y_Ar_fill1 b_Ar_fill1 5 none : Cond) ∈ lw_gd := tg_5 (i := 62) rfl rfl
set_option maxRecDepth 100000 in
theorem mw_1023 : (.methodLink "BreweryHouse" 158 y_Wa_forget : Cond) ∈ lw_gd := tg_5 (i := 63) rfl rfl
set_option maxRecDepth 100000 in
theorem mw_1024 : (.instanceMethod y_Wa_forget : Cond) ∈ lw_gd := tg_5 (i := 64) rfl rfl
set_option maxRecDepth 100000 in
theorem mw_1025 : (.selects "BreweryHouse$Ways" y_Wa_forget y_Wa_forget : Cond) ∈ lw_gd := tg_5 (i := 65) rfl rfl
set_option maxRecDepth 100000 in
theorem mw_1026 : (.code y_Wa_forget b_Wa_forget 2 none : Cond) ∈ lw_gd := tg_5 (i := 66) rfl rfl
set_option maxRecDepth 100000 in
theorem mw_1027 : (.methodLink "BreweryHouse$Ways" 69 y_Ar_fill0 : Cond) ∈ lw_gd := tg_5 (i := 67) rfl rfl
set_option maxRecDepth 100000 in
theorem mw_1028 : (.methodLink "BreweryHouse" 164 y_Pl_writeTo : Cond) ∈ lw_gd := tg_5 (i := 68) rfl rfl
set_option maxRecDepth 100000 in
theorem mw_1029 : (.instanceMethod y_Pl_writeTo : Cond) ∈ lw_gd := tg_5 (i := 69) rfl rfl
set_option maxRecDepth 100000 in
theorem mw_1030 : (.selects "BreweryHouse$Plant" y_Pl_writeTo y_Pl_writeTo : Cond) ∈ lw_gd := tg_5 (i := 70) rfl rfl
set_option maxRecDepth 100000 in
theorem mw_1031 : (.code y_Pl_writeTo b_Pl_writeTo 4 (some .int) : Cond) ∈ lw_gd := tg_5 (i := 71) rfl rfl
set_option maxRecDepth 100000 in
theorem mw_1032 : (.methodLink "BreweryHouse$Plant" 117 y_Pl_put : Cond) ∈ lw_gd := tg_5 (i := 72) rfl rfl
set_option maxRecDepth 100000 in
theorem mw_1033 : (.static y_Pl_put : Cond) ∈ lw_gd := tg_5 (i := 73) rfl rfl
set_option maxRecDepth 100000 in
theorem mw_1034 : (.code y_Pl_put b_Pl_put 5 (some .int) : Cond) ∈ lw_gd := tg_5 (i := 74) rfl rfl
set_option maxRecDepth 100000 in
theorem mw_1035 : (.methodLink "BreweryHouse$Plant" 121 y_Pl_putNumber : Cond) ∈ lw_gd := tg_5 (i := 75) rfl rfl
set_option maxRecDepth 100000 in
theorem mw_1036 : (.static y_Pl_putNumber : Cond) ∈ lw_gd := tg_5 (i := 76) rfl rfl
set_option maxRecDepth 100000 in
theorem mw_1037 : (.code y_Pl_putNumber b_Pl_putNumber 5 (some .int) : Cond) ∈ lw_gd := tg_5 (i := 77) rfl rfl
set_option maxRecDepth 100000 in
theorem mw_1039 : (.methodLink "BreweryHouse$Plant" 127 y_Pl_putPipeEnd : Cond) ∈ lw_gd := tg_5 (i := 79) rfl rfl
set_option maxRecDepth 100000 in
theorem mw_1040 : (.static y_Pl_putPipeEnd : Cond) ∈ lw_gd := tg_5 (i := 80) rfl rfl
set_option maxRecDepth 100000 in
theorem mw_1041 : (.code y_Pl_putPipeEnd b_Pl_putPipeEnd 3 (some .int) : Cond) ∈ lw_gd := tg_5 (i := 81) rfl rfl
set_option maxRecDepth 100000 in
theorem mw_1043 : (.methodLink "BreweryHouse" 145 y_Bh_takeRows : Cond) ∈ lw_gd := tg_5 (i := 83) rfl rfl
set_option maxRecDepth 100000 in
theorem mw_1045 : (.instanceMethod y_Bh_takeRows : Cond) ∈ lw_gd := tg_5 (i := 85) rfl rfl
set_option maxRecDepth 100000 in
theorem mw_1046 : (.code y_Bh_takeRows b_Bh_takeRows 2 (some .int) : Cond) ∈ lw_gd := tg_5 (i := 86) rfl rfl
set_option maxRecDepth 100000 in
theorem mw_1047 : (.methodLink "BreweryHouse" 148 y_Bh_takeProgram : Cond) ∈ lw_gd := tg_5 (i := 87) rfl rfl
set_option maxRecDepth 100000 in
theorem mw_1049 : (.instanceMethod y_Bh_takeProgram : Cond) ∈ lw_gd := tg_5 (i := 89) rfl rfl
set_option maxRecDepth 100000 in
theorem mw_1050 : (.code y_Bh_takeProgram b_Bh_takeProgram 2 (some .int) : Cond) ∈ lw_gd := tg_5 (i := 90) rfl rfl
set_option maxRecDepth 100000 in
theorem mw_1051 : (.methodLink "BreweryHouse" 186 y_Ru_take : Cond) ∈ lw_gd := tg_5 (i := 91) rfl rfl
set_option maxRecDepth 100000 in
theorem mw_1052 : (.instanceMethod y_Ru_take : Cond) ∈ lw_gd := tg_5 (i := 92) rfl rfl
set_option maxRecDepth 100000 in
theorem mw_1053 : (.selects "BreweryHouse$Run" y_Ru_take y_Ru_take : Cond) ∈ lw_gd := tg_5 (i := 93) rfl rfl
set_option maxRecDepth 100000 in
theorem mw_1054 : (.code y_Ru_take b_Ru_take 2 none : Cond) ∈ lw_gd := tg_5 (i := 94) rfl rfl
set_option maxRecDepth 100000 in
theorem mw_1055 : (.methodLink "BreweryHouse$Run" 72 y_Ru_expandAll : Cond) ∈ lw_gd := tg_5 (i := 95) rfl rfl
set_option maxRecDepth 100000 in
theorem mw_1057 : (.instanceMethod y_Ru_expandAll : Cond) ∈ lw_gd := tg_5 (i := 97) rfl rfl
set_option maxRecDepth 100000 in
theorem mw_1058 : (.code y_Ru_expandAll b_Ru_expandAll 8 (some .int) : Cond) ∈ lw_gd := tg_5 (i := 98) rfl rfl
set_option maxRecDepth 100000 in
theorem mw_1059 : (.methodLink "BreweryHouse$Run" 76 y_Pr_firstBlock : Cond) ∈ lw_gd := tg_5 (i := 99) rfl rfl
set_option maxRecDepth 100000 in
theorem mw_1060 : (.instanceMethod y_Pr_firstBlock : Cond) ∈ lw_gd := tg_5 (i := 100) rfl rfl
set_option maxRecDepth 100000 in
theorem mw_1061 : (.selects "BreweryHouse$Program" y_Pr_firstBlock y_Pr_firstBlock : Cond) ∈ lw_gd := tg_5 (i := 101) rfl rfl
set_option maxRecDepth 100000 in
theorem mw_1062 : (.code y_Pr_firstBlock b_Pr_firstBlock 2 (some .int) : Cond) ∈ lw_gd := tg_5 (i := 102) rfl rfl
set_option maxRecDepth 100000 in
theorem mw_1063 : (.methodLink "BreweryHouse" 190 y_Wa_closeAll : Cond) ∈ lw_gd := tg_5 (i := 103) rfl rfl
set_option maxRecDepth 100000 in
theorem mw_1064 : (.instanceMethod y_Wa_closeAll : Cond) ∈ lw_gd := tg_5 (i := 104) rfl rfl
set_option maxRecDepth 100000 in
theorem mw_1065 : (.selects "BreweryHouse$Ways" y_Wa_closeAll y_Wa_closeAll : Cond) ∈ lw_gd := tg_5 (i := 105) rfl rfl
set_option maxRecDepth 100000 in
theorem mw_1066 : (.code y_Wa_closeAll b_Wa_closeAll 2 none : Cond) ∈ lw_gd := tg_5 (i := 106) rfl rfl
set_option maxRecDepth 100000 in
theorem mw_1067 : (.methodLink "BreweryHouse$Ways" 125 y_Wa_remove : Cond) ∈ lw_gd := tg_5 (i := 107) rfl rfl
set_option maxRecDepth 100000 in
theorem mw_1069 : (.instanceMethod y_Wa_remove : Cond) ∈ lw_gd := tg_5 (i := 109) rfl rfl
set_option maxRecDepth 100000 in
theorem mw_1070 : (.code y_Wa_remove b_Wa_remove 7 none : Cond) ∈ lw_gd := tg_5 (i := 110) rfl rfl
set_option maxRecDepth 100000 in
theorem mw_1075 : (.methodLink "BreweryHouse" 196 y_St_isTank : Cond) ∈ lw_gd := tg_5 (i := 115) rfl rfl
set_option maxRecDepth 100000 in
theorem mw_1076 : (.instanceMethod y_St_isTank : Cond) ∈ lw_gd := tg_5 (i := 116) rfl rfl
set_option maxRecDepth 100000 in
theorem mw_1077 : (.selects "BreweryHouse$Stock" y_St_isTank y_St_isTank : Cond) ∈ lw_gd := tg_5 (i := 117) rfl rfl
set_option maxRecDepth 100000 in
theorem mw_1078 : (.code y_St_isTank b_St_isTank 2 (some .boolean) : Cond) ∈ lw_gd := tg_5 (i := 118) rfl rfl
set_option maxRecDepth 100000 in
theorem mw_1079 : (.methodLink "BreweryHouse" 200 y_Bh_isLiquid : Cond) ∈ lw_gd := tg_5 (i := 119) rfl rfl
set_option maxRecDepth 100000 in
theorem mw_1080 : (.static y_Bh_isLiquid : Cond) ∈ lw_gd := tg_5 (i := 120) rfl rfl
set_option maxRecDepth 100000 in
theorem mw_1081 : (.code y_Bh_isLiquid b_Bh_isLiquid 1 (some .boolean) : Cond) ∈ lw_gd := tg_5 (i := 121) rfl rfl
set_option maxRecDepth 100000 in
theorem mw_1082 : (.constantLong "BreweryHouse" 203 100000 : Cond) ∈ lw_gd := tg_5 (i := 122) rfl rfl
set_option maxRecDepth 100000 in
theorem mw_1083 : (.methodLink "BreweryHouse" 211 y_St_mayCome : Cond) ∈ lw_gd := tg_5 (i := 123) rfl rfl
set_option maxRecDepth 100000 in
theorem mw_1084 : (.instanceMethod y_St_mayCome : Cond) ∈ lw_gd := tg_5 (i := 124) rfl rfl
set_option maxRecDepth 100000 in
theorem mw_1085 : (.selects "BreweryHouse$Stock" y_St_mayCome y_St_mayCome : Cond) ∈ lw_gd := tg_5 (i := 125) rfl rfl
set_option maxRecDepth 100000 in
theorem mw_1086 : (.code y_St_mayCome b_St_mayCome 4 (some .boolean) : Cond) ∈ lw_gd := tg_5 (i := 126) rfl rfl
set_option maxRecDepth 100000 in
theorem mw_1087 : (.methodLink "BreweryHouse$Stock" 77 y_St_heldLevel : Cond) ∈ lw_gd := tg_5 (i := 127) rfl rfl
set_option maxRecDepth 100000 in
theorem mw_1089 : (.instanceMethod y_St_heldLevel : Cond) ∈ lw_gd := tg_5 (i := 129) rfl rfl
set_option maxRecDepth 100000 in
theorem mw_1090 : (.code y_St_heldLevel b_St_heldLevel 4 (some .int) : Cond) ∈ lw_gd := tg_5 (i := 130) rfl rfl
set_option maxRecDepth 100000 in
theorem mw_1091 : (.methodLink "BreweryHouse$Stock" 81 y_Ma_max : Cond) ∈ lw_gd := tg_5 (i := 131) rfl rfl
set_option maxRecDepth 100000 in
theorem mw_1092 : (.methodLink "BreweryHouse" 218 y_Sf_isSafe : Cond) ∈ lw_gd := tg_5 (i := 132) rfl rfl
set_option maxRecDepth 100000 in
theorem mw_1093 : (.instanceMethod y_Sf_isSafe : Cond) ∈ lw_gd := tg_5 (i := 133) rfl rfl
set_option maxRecDepth 100000 in
theorem mw_1094 : (.selects "BreweryHouse$Safety" y_Sf_isSafe y_Sf_isSafe : Cond) ∈ lw_gd := tg_5 (i := 134) rfl rfl
set_option maxRecDepth 100000 in
theorem mw_1095 : (.code y_Sf_isSafe b_Sf_isSafe 4 (some .boolean) : Cond) ∈ lw_gd := tg_5 (i := 135) rfl rfl
set_option maxRecDepth 100000 in
theorem mw_1096 : (.methodLink "BreweryHouse$Safety" 37 y_Ar_fill1 : Cond) ∈ lw_gd := tg_5 (i := 136) rfl rfl
set_option maxRecDepth 100000 in
theorem mw_1097 : (.methodLink "BreweryHouse$Safety" 43 y_Wa_addSources : Cond) ∈ lw_gd := tg_5 (i := 137) rfl rfl
set_option maxRecDepth 100000 in
theorem mw_1098 : (.instanceMethod y_Wa_addSources : Cond) ∈ lw_gd := tg_5 (i := 138) rfl rfl
set_option maxRecDepth 100000 in
theorem mw_1099 : (.selects "BreweryHouse$Ways" y_Wa_addSources y_Wa_addSources : Cond) ∈ lw_gd := tg_5 (i := 139) rfl rfl
set_option maxRecDepth 100000 in
theorem mw_1100 : (.code y_Wa_addSources b_Wa_addSources 8 none : Cond) ∈ lw_gd := tg_5 (i := 140) rfl rfl
set_option maxRecDepth 100000 in
theorem mw_1101 : (.methodLink "BreweryHouse$Safety" 49 y_Sf_findRivals : Cond) ∈ lw_gd := tg_5 (i := 141) rfl rfl
set_option maxRecDepth 100000 in
theorem mw_1103 : (.instanceMethod y_Sf_findRivals : Cond) ∈ lw_gd := tg_5 (i := 143) rfl rfl
set_option maxRecDepth 100000 in
theorem mw_1104 : (.code y_Sf_findRivals b_Sf_findRivals 5 (some .boolean) : Cond) ∈ lw_gd := tg_5 (i := 144) rfl rfl
set_option maxRecDepth 100000 in
theorem mw_1105 : (.methodLink "BreweryHouse$Safety" 53 y_Sf_link : Cond) ∈ lw_gd := tg_5 (i := 145) rfl rfl
set_option maxRecDepth 100000 in
theorem mw_1107 : (.instanceMethod y_Sf_link : Cond) ∈ lw_gd := tg_5 (i := 147) rfl rfl
set_option maxRecDepth 100000 in
theorem mw_1108 : (.code y_Sf_link b_Sf_link 11 none : Cond) ∈ lw_gd := tg_5 (i := 148) rfl rfl
set_option maxRecDepth 100000 in
theorem mw_1110 : (.methodLink "BreweryHouse$Safety" 57 y_Sf_meet : Cond) ∈ lw_gd := tg_5 (i := 150) rfl rfl
set_option maxRecDepth 100000 in
theorem mw_1112 : (.instanceMethod y_Sf_meet : Cond) ∈ lw_gd := tg_5 (i := 152) rfl rfl
set_option maxRecDepth 100000 in
theorem mw_1113 : (.code y_Sf_meet b_Sf_meet 8 (some .boolean) : Cond) ∈ lw_gd := tg_5 (i := 153) rfl rfl
set_option maxRecDepth 100000 in
theorem mw_1114 : (.methodLink "BreweryHouse$Safety" 107 y_Lo_numberOfTrailingZeros : Cond) ∈ lw_gd := tg_5 (i := 154) rfl rfl
set_option maxRecDepth 100000 in
theorem mw_1115 : (.static y_Lo_numberOfTrailingZeros : Cond) ∈ lw_gd := tg_5 (i := 155) rfl rfl
set_option maxRecDepth 100000 in
theorem mw_1116 : (.code y_Lo_numberOfTrailingZeros b_Lo_numberOfTrailingZeros 3 (some .int) : Cond) ∈ lw_gd := tg_5 (i := 156) rfl rfl
set_option maxRecDepth 100000 in
theorem mw_1117 : (.methodLink "java/lang/Long" 311 y_In_numberOfTrailingZeros : Cond) ∈ lw_gd := tg_5 (i := 157) rfl rfl
set_option maxRecDepth 100000 in
theorem mw_1118 : (.static y_In_numberOfTrailingZeros : Cond) ∈ lw_gd := tg_5 (i := 158) rfl rfl
set_option maxRecDepth 100000 in
theorem mw_1119 : (.code y_In_numberOfTrailingZeros b_In_numberOfTrailingZeros 2 (some .int) : Cond) ∈ lw_gd := tg_5 (i := 159) rfl rfl
set_option maxRecDepth 100000 in
theorem mw_1120 : (.constant "java/lang/Integer" 264 65536 : Cond) ∈ lw_gd := tg_5 (i := 160) rfl rfl
set_option maxRecDepth 100000 in
theorem mw_1121 : (.constantLong "BreweryHouse$Safety" 113 (-1) : Cond) ∈ lw_gd := tg_5 (i := 161) rfl rfl
set_option maxRecDepth 100000 in
theorem mw_1122 : (.methodLink "BreweryHouse$Safety" 71 y_Sf_otherPasses : Cond) ∈ lw_gd := tg_5 (i := 162) rfl rfl
set_option maxRecDepth 100000 in
theorem mw_1124 : (.instanceMethod y_Sf_otherPasses : Cond) ∈ lw_gd := tg_5 (i := 164) rfl rfl
set_option maxRecDepth 100000 in
theorem mw_1125 : (.code y_Sf_otherPasses b_Sf_otherPasses 6 (some .int) : Cond) ∈ lw_gd := tg_5 (i := 165) rfl rfl
set_option maxRecDepth 100000 in
theorem mw_1126 : (.fieldLink "BreweryHouse$Safety" 84 "BreweryHouse$Safety" "BETWEEN" "[I" : Cond) ∈ lw_gd := tg_5 (i := 166) rfl rfl
set_option maxRecDepth 100000 in
theorem mw_1128 : (.methodLink "BreweryHouse$Safety" 90 y_Ma_min : Cond) ∈ lw_gd := tg_5 (i := 168) rfl rfl
set_option maxRecDepth 100000 in
theorem mw_1129 : (.methodLink "BreweryHouse" 221 y_St_arrive : Cond) ∈ lw_gd := tg_5 (i := 169) rfl rfl
set_option maxRecDepth 100000 in
theorem mw_1130 : (.instanceMethod y_St_arrive : Cond) ∈ lw_gd := tg_5 (i := 170) rfl rfl
set_option maxRecDepth 100000 in
theorem mw_1131 : (.selects "BreweryHouse$Stock" y_St_arrive y_St_arrive : Cond) ∈ lw_gd := tg_5 (i := 171) rfl rfl
set_option maxRecDepth 100000 in
theorem mw_1132 : (.code y_St_arrive b_St_arrive 4 none : Cond) ∈ lw_gd := tg_5 (i := 172) rfl rfl
set_option maxRecDepth 100000 in
theorem mw_1133 : (.methodLink "BreweryHouse$Stock" 90 y_St_forgetCleanings : Cond) ∈ lw_gd := tg_5 (i := 173) rfl rfl
set_option maxRecDepth 100000 in
theorem mw_1135 : (.instanceMethod y_St_forgetCleanings : Cond) ∈ lw_gd := tg_5 (i := 175) rfl rfl
set_option maxRecDepth 100000 in
theorem mw_1136 : (.code y_St_forgetCleanings b_St_forgetCleanings 3 none : Cond) ∈ lw_gd := tg_5 (i := 176) rfl rfl
set_option maxRecDepth 100000 in
theorem mw_1141 : (.methodLink "BreweryHouse" 225 y_St_mayMeet : Cond) ∈ lw_gd := tg_5 (i := 181) rfl rfl
set_option maxRecDepth 100000 in
theorem mw_1142 : (.instanceMethod y_St_mayMeet : Cond) ∈ lw_gd := tg_5 (i := 182) rfl rfl
set_option maxRecDepth 100000 in
theorem mw_1143 : (.selects "BreweryHouse$Stock" y_St_mayMeet y_St_mayMeet : Cond) ∈ lw_gd := tg_5 (i := 183) rfl rfl
set_option maxRecDepth 100000 in
theorem mw_1144 : (.code y_St_mayMeet b_St_mayMeet 3 (some .boolean) : Cond) ∈ lw_gd := tg_5 (i := 184) rfl rfl
set_option maxRecDepth 100000 in
theorem mw_1153 : (.constant "BreweryHouse" 234 1000000 : Cond) ∈ lw_gd := tg_5 (i := 193) rfl rfl
set_option maxRecDepth 100000 in
theorem mw_1158 : (.methodLink "BreweryHouse" 238 y_Pr_isSignal : Cond) ∈ lw_gd := tg_5 (i := 198) rfl rfl
set_option maxRecDepth 100000 in
theorem mw_1159 : (.instanceMethod y_Pr_isSignal : Cond) ∈ lw_gd := tg_5 (i := 199) rfl rfl
set_option maxRecDepth 100000 in
theorem mw_1160 : (.selects "BreweryHouse$Program" y_Pr_isSignal y_Pr_isSignal : Cond) ∈ lw_gd := tg_5 (i := 200) rfl rfl
set_option maxRecDepth 100000 in
theorem mw_1161 : (.code y_Pr_isSignal b_Pr_isSignal 2 (some .boolean) : Cond) ∈ lw_gd := tg_5 (i := 201) rfl rfl
set_option maxRecDepth 100000 in
theorem mw_1174 : (.methodLink "BreweryHouse" 250 y_Ac_tie : Cond) ∈ lw_gd := tg_5 (i := 214) rfl rfl
set_option maxRecDepth 100000 in
theorem mw_1175 : (.instanceMethod y_Ac_tie : Cond) ∈ lw_gd := tg_5 (i := 215) rfl rfl
set_option maxRecDepth 100000 in
theorem mw_1176 : (.selects "BreweryHouse$Acts" y_Ac_tie y_Ac_tie : Cond) ∈ lw_gd := tg_5 (i := 216) rfl rfl
set_option maxRecDepth 100000 in
theorem mw_1177 : (.code y_Ac_tie b_Ac_tie 6 (some .boolean) : Cond) ∈ lw_gd := tg_5 (i := 217) rfl rfl
set_option maxRecDepth 100000 in
theorem mw_1178 : (.methodLink "BreweryHouse$Acts" 49 y_Ac_isAct : Cond) ∈ lw_gd := tg_5 (i := 218) rfl rfl
set_option maxRecDepth 100000 in
theorem mw_1179 : (.static y_Ac_isAct : Cond) ∈ lw_gd := tg_5 (i := 219) rfl rfl
set_option maxRecDepth 100000 in
theorem mw_1180 : (.code y_Ac_isAct b_Ac_isAct 1 (some .boolean) : Cond) ∈ lw_gd := tg_5 (i := 220) rfl rfl
set_option maxRecDepth 100000 in
theorem mw_1185 : (.methodLink "BreweryHouse" 254 y_Ac_isAct : Cond) ∈ lw_gd := tg_5 (i := 225) rfl rfl
set_option maxRecDepth 100000 in
theorem mw_1186 : (.methodLink "BreweryHouse" 257 y_Ac_perform : Cond) ∈ lw_gd := tg_5 (i := 226) rfl rfl
set_option maxRecDepth 100000 in
theorem mw_1187 : (.instanceMethod y_Ac_perform : Cond) ∈ lw_gd := tg_5 (i := 227) rfl rfl
set_option maxRecDepth 100000 in
theorem mw_1188 : (.selects "BreweryHouse$Acts" y_Ac_perform y_Ac_perform : Cond) ∈ lw_gd := tg_5 (i := 228) rfl rfl
set_option maxRecDepth 100000 in
theorem mw_1189 : (.code y_Ac_perform b_Ac_perform 2 (some .int) : Cond) ∈ lw_gd := tg_5 (i := 229) rfl rfl
set_option maxRecDepth 100000 in
theorem mw_1190 : (.methodLink "BreweryHouse$Acts" 64 y_Ac_isBound : Cond) ∈ lw_gd := tg_5 (i := 230) rfl rfl
set_option maxRecDepth 100000 in
theorem mw_1192 : (.instanceMethod y_Ac_isBound : Cond) ∈ lw_gd := tg_5 (i := 232) rfl rfl
set_option maxRecDepth 100000 in
theorem mw_1193 : (.code y_Ac_isBound b_Ac_isBound 2 (some .boolean) : Cond) ∈ lw_gd := tg_5 (i := 233) rfl rfl
set_option maxRecDepth 100000 in
theorem mw_1194 : (.methodLink "BreweryHouse$Acts" 53 y_St_isTank : Cond) ∈ lw_gd := tg_5 (i := 234) rfl rfl
set_option maxRecDepth 100000 in
theorem mw_1195 : (.methodLink "BreweryHouse$Acts" 58 y_St_isValve : Cond) ∈ lw_gd := tg_5 (i := 235) rfl rfl
set_option maxRecDepth 100000 in
theorem mw_1196 : (.instanceMethod y_St_isValve : Cond) ∈ lw_gd := tg_5 (i := 236) rfl rfl
set_option maxRecDepth 100000 in
theorem mw_1197 : (.selects "BreweryHouse$Stock" y_St_isValve y_St_isValve : Cond) ∈ lw_gd := tg_5 (i := 237) rfl rfl
set_option maxRecDepth 100000 in
theorem mw_1198 : (.code y_St_isValve b_St_isValve 2 (some .boolean) : Cond) ∈ lw_gd := tg_5 (i := 238) rfl rfl
set_option maxRecDepth 100000 in
theorem mw_1199 : (.methodLink "BreweryHouse$Acts" 61 y_St_isHolder : Cond) ∈ lw_gd := tg_5 (i := 239) rfl rfl
set_option maxRecDepth 100000 in
theorem mw_1200 : (.instanceMethod y_St_isHolder : Cond) ∈ lw_gd := tg_6 (i := 0) rfl rfl
set_option maxRecDepth 100000 in
theorem mw_1201 : (.selects "BreweryHouse$Stock" y_St_isHolder y_St_isHolder : Cond) ∈ lw_gd := tg_6 (i := 1) rfl rfl
set_option maxRecDepth 100000 in
theorem mw_1202 : (.code y_St_isHolder b_St_isHolder 2 (some .boolean) : Cond) ∈ lw_gd := tg_6 (i := 2) rfl rfl
set_option maxRecDepth 100000 in
theorem mw_1203 : (.methodLink "BreweryHouse$Stock" 70 y_St_isTank : Cond) ∈ lw_gd := tg_6 (i := 3) rfl rfl
set_option maxRecDepth 100000 in
theorem mw_1204 : (.methodLink "BreweryHouse$Stock" 74 y_St_isPipe : Cond) ∈ lw_gd := tg_6 (i := 4) rfl rfl
set_option maxRecDepth 100000 in
theorem mw_1205 : (.instanceMethod y_St_isPipe : Cond) ∈ lw_gd := tg_6 (i := 5) rfl rfl
set_option maxRecDepth 100000 in
theorem mw_1206 : (.selects "BreweryHouse$Stock" y_St_isPipe y_St_isPipe : Cond) ∈ lw_gd := tg_6 (i := 6) rfl rfl
set_option maxRecDepth 100000 in
theorem mw_1207 : (.code y_St_isPipe b_St_isPipe 2 (some .boolean) : Cond) ∈ lw_gd := tg_6 (i := 7) rfl rfl
set_option maxRecDepth 100000 in
theorem mw_1208 : (.methodLink "BreweryHouse$Acts" 67 y_Ro_barring : Cond) ∈ lw_gd := tg_6 (i := 8) rfl rfl
set_option maxRecDepth 100000 in
theorem mw_1209 : (.instanceMethod y_Ro_barring : Cond) ∈ lw_gd := tg_6 (i := 9) rfl rfl
set_option maxRecDepth 100000 in
theorem mw_1210 : (.selects "BreweryHouse$Rows" y_Ro_barring y_Ro_barring : Cond) ∈ lw_gd := tg_6 (i := 10) rfl rfl
set_option maxRecDepth 100000 in
theorem mw_1211 : (.code y_Ro_barring b_Ro_barring 4 (some .int) : Cond) ∈ lw_gd := tg_6 (i := 11) rfl rfl
set_option maxRecDepth 100000 in
theorem mw_1212 : (.methodLink "BreweryHouse$Rows" 46 y_Ro_isOn : Cond) ∈ lw_gd := tg_6 (i := 12) rfl rfl
set_option maxRecDepth 100000 in
theorem mw_1213 : (.instanceMethod y_Ro_isOn : Cond) ∈ lw_gd := tg_6 (i := 13) rfl rfl
set_option maxRecDepth 100000 in
theorem mw_1214 : (.selects "BreweryHouse$Rows" y_Ro_isOn y_Ro_isOn : Cond) ∈ lw_gd := tg_6 (i := 14) rfl rfl
set_option maxRecDepth 100000 in
theorem mw_1215 : (.code y_Ro_isOn b_Ro_isOn 7 (some .boolean) : Cond) ∈ lw_gd := tg_6 (i := 15) rfl rfl
set_option maxRecDepth 100000 in
theorem mw_1216 : (.constantLong "BreweryHouse$Rows" 44 (-2) : Cond) ∈ lw_gd := tg_6 (i := 16) rfl rfl
set_option maxRecDepth 100000 in
theorem mw_1217 : (.methodLink "BreweryHouse$Acts" 71 y_Ac_openWay : Cond) ∈ lw_gd := tg_6 (i := 17) rfl rfl
set_option maxRecDepth 100000 in
theorem mw_1219 : (.instanceMethod y_Ac_openWay : Cond) ∈ lw_gd := tg_6 (i := 19) rfl rfl
set_option maxRecDepth 100000 in
theorem mw_1220 : (.code y_Ac_openWay b_Ac_openWay 5 (some .int) : Cond) ∈ lw_gd := tg_6 (i := 20) rfl rfl
set_option maxRecDepth 100000 in
theorem mw_1221 : (.methodLink "BreweryHouse$Acts" 88 y_Wa_indexOf : Cond) ∈ lw_gd := tg_6 (i := 21) rfl rfl
set_option maxRecDepth 100000 in
theorem mw_1222 : (.instanceMethod y_Wa_indexOf : Cond) ∈ lw_gd := tg_6 (i := 22) rfl rfl
set_option maxRecDepth 100000 in
theorem mw_1223 : (.selects "BreweryHouse$Ways" y_Wa_indexOf y_Wa_indexOf : Cond) ∈ lw_gd := tg_6 (i := 23) rfl rfl
set_option maxRecDepth 100000 in
theorem mw_1224 : (.code y_Wa_indexOf b_Wa_indexOf 4 (some .int) : Cond) ∈ lw_gd := tg_6 (i := 24) rfl rfl
set_option maxRecDepth 100000 in
theorem mw_1225 : (.methodLink "BreweryHouse$Acts" 96 y_Wa_find : Cond) ∈ lw_gd := tg_6 (i := 25) rfl rfl
set_option maxRecDepth 100000 in
theorem mw_1226 : (.instanceMethod y_Wa_find : Cond) ∈ lw_gd := tg_6 (i := 26) rfl rfl
set_option maxRecDepth 100000 in
theorem mw_1227 : (.selects "BreweryHouse$Ways" y_Wa_find y_Wa_find : Cond) ∈ lw_gd := tg_6 (i := 27) rfl rfl
set_option maxRecDepth 100000 in
theorem mw_1228 : (.code y_Wa_find b_Wa_find 10 (some .boolean) : Cond) ∈ lw_gd := tg_6 (i := 28) rfl rfl
set_option maxRecDepth 100000 in
theorem mw_1229 : (.constant "BreweryHouse$Ways" 99 536870912 : Cond) ∈ lw_gd := tg_6 (i := 29) rfl rfl
set_option maxRecDepth 100000 in
theorem mw_1230 : (.methodLink "BreweryHouse$Ways" 100 y_Wa_onward : Cond) ∈ lw_gd := tg_6 (i := 30) rfl rfl
set_option maxRecDepth 100000 in
theorem mw_1232 : (.instanceMethod y_Wa_onward : Cond) ∈ lw_gd := tg_6 (i := 32) rfl rfl
set_option maxRecDepth 100000 in
theorem mw_1233 : (.code y_Wa_onward b_Wa_onward 10 (some .int) : Cond) ∈ lw_gd := tg_6 (i := 33) rfl rfl
set_option maxRecDepth 100000 in
theorem mw_1234 : (.methodLink "BreweryHouse$Ways" 104 y_Wa_cheapestEntry : Cond) ∈ lw_gd := tg_6 (i := 34) rfl rfl
set_option maxRecDepth 100000 in
theorem mw_1236 : (.instanceMethod y_Wa_cheapestEntry : Cond) ∈ lw_gd := tg_6 (i := 36) rfl rfl
set_option maxRecDepth 100000 in
theorem mw_1237 : (.code y_Wa_cheapestEntry b_Wa_cheapestEntry 5 (some .int) : Cond) ∈ lw_gd := tg_6 (i := 37) rfl rfl
set_option maxRecDepth 100000 in
theorem mw_1238 : (.methodLink "BreweryHouse$Acts" 116 y_St_mayCome : Cond) ∈ lw_gd := tg_6 (i := 38) rfl rfl
set_option maxRecDepth 100000 in
theorem mw_1239 : (.methodLink "BreweryHouse$Acts" 119 y_Wa_openFound : Cond) ∈ lw_gd := tg_6 (i := 39) rfl rfl
set_option maxRecDepth 100000 in
theorem mw_1240 : (.instanceMethod y_Wa_openFound : Cond) ∈ lw_gd := tg_6 (i := 40) rfl rfl
set_option maxRecDepth 100000 in
theorem mw_1241 : (.selects "BreweryHouse$Ways" y_Wa_openFound y_Wa_openFound : Cond) ∈ lw_gd := tg_6 (i := 41) rfl rfl
set_option maxRecDepth 100000 in
theorem mw_1242 : (.code y_Wa_openFound b_Wa_openFound 9 none : Cond) ∈ lw_gd := tg_6 (i := 42) rfl rfl
set_option maxRecDepth 100000 in
theorem mw_1243 : (.methodLink "BreweryHouse$Acts" 123 y_Sf_isSafe : Cond) ∈ lw_gd := tg_6 (i := 43) rfl rfl
set_option maxRecDepth 100000 in
theorem mw_1244 : (.methodLink "BreweryHouse$Acts" 129 y_Wa_undoOpening : Cond) ∈ lw_gd := tg_6 (i := 44) rfl rfl
set_option maxRecDepth 100000 in
theorem mw_1245 : (.instanceMethod y_Wa_undoOpening : Cond) ∈ lw_gd := tg_6 (i := 45) rfl rfl
set_option maxRecDepth 100000 in
theorem mw_1246 : (.selects "BreweryHouse$Ways" y_Wa_undoOpening y_Wa_undoOpening : Cond) ∈ lw_gd := tg_6 (i := 46) rfl rfl
set_option maxRecDepth 100000 in
theorem mw_1247 : (.code y_Wa_undoOpening b_Wa_undoOpening 1 none : Cond) ∈ lw_gd := tg_6 (i := 47) rfl rfl
set_option maxRecDepth 100000 in
theorem mw_1248 : (.methodLink "BreweryHouse$Acts" 75 y_Ac_closeWay : Cond) ∈ lw_gd := tg_6 (i := 48) rfl rfl
set_option maxRecDepth 100000 in
theorem mw_1250 : (.instanceMethod y_Ac_closeWay : Cond) ∈ lw_gd := tg_6 (i := 50) rfl rfl
set_option maxRecDepth 100000 in
theorem mw_1251 : (.code y_Ac_closeWay b_Ac_closeWay 4 (some .int) : Cond) ∈ lw_gd := tg_6 (i := 51) rfl rfl
set_option maxRecDepth 100000 in
theorem mw_1252 : (.methodLink "BreweryHouse$Acts" 132 y_Wa_closeOne : Cond) ∈ lw_gd := tg_6 (i := 52) rfl rfl
set_option maxRecDepth 100000 in
theorem mw_1253 : (.instanceMethod y_Wa_closeOne : Cond) ∈ lw_gd := tg_6 (i := 53) rfl rfl
set_option maxRecDepth 100000 in
theorem mw_1254 : (.selects "BreweryHouse$Ways" y_Wa_closeOne y_Wa_closeOne : Cond) ∈ lw_gd := tg_6 (i := 54) rfl rfl
set_option maxRecDepth 100000 in
theorem mw_1255 : (.code y_Wa_closeOne b_Wa_closeOne 2 none : Cond) ∈ lw_gd := tg_6 (i := 55) rfl rfl
set_option maxRecDepth 100000 in
theorem mw_1256 : (.methodLink "BreweryHouse$Acts" 79 y_Ac_setPosition : Cond) ∈ lw_gd := tg_6 (i := 56) rfl rfl
set_option maxRecDepth 100000 in
theorem mw_1258 : (.instanceMethod y_Ac_setPosition : Cond) ∈ lw_gd := tg_6 (i := 58) rfl rfl
set_option maxRecDepth 100000 in
theorem mw_1259 : (.code y_Ac_setPosition b_Ac_setPosition 4 (some .int) : Cond) ∈ lw_gd := tg_6 (i := 59) rfl rfl
set_option maxRecDepth 100000 in
theorem mw_1260 : (.methodLink "BreweryHouse$Acts" 136 y_Wa_goesOver : Cond) ∈ lw_gd := tg_6 (i := 60) rfl rfl
set_option maxRecDepth 100000 in
theorem mw_1261 : (.instanceMethod y_Wa_goesOver : Cond) ∈ lw_gd := tg_6 (i := 61) rfl rfl
set_option maxRecDepth 100000 in
theorem mw_1262 : (.selects "BreweryHouse$Ways" y_Wa_goesOver y_Wa_goesOver : Cond) ∈ lw_gd := tg_6 (i := 62) rfl rfl
set_option maxRecDepth 100000 in
theorem mw_1263 : (.code y_Wa_goesOver b_Wa_goesOver 2 (some .boolean) : Cond) ∈ lw_gd := tg_6 (i := 63) rfl rfl
set_option maxRecDepth 100000 in
theorem mw_1264 : (.methodLink "BreweryHouse$Acts" 82 y_Ac_cleanSpace : Cond) ∈ lw_gd := tg_6 (i := 64) rfl rfl
set_option maxRecDepth 100000 in
theorem mw_1266 : (.instanceMethod y_Ac_cleanSpace : Cond) ∈ lw_gd := tg_6 (i := 66) rfl rfl
set_option maxRecDepth 100000 in
theorem mw_1267 : (.code y_Ac_cleanSpace b_Ac_cleanSpace 3 (some .int) : Cond) ∈ lw_gd := tg_6 (i := 67) rfl rfl
set_option maxRecDepth 100000 in
theorem mw_1268 : (.methodLink "BreweryHouse$Acts" 142 y_Wa_hasSpace : Cond) ∈ lw_gd := tg_6 (i := 68) rfl rfl
set_option maxRecDepth 100000 in
theorem mw_1269 : (.instanceMethod y_Wa_hasSpace : Cond) ∈ lw_gd := tg_6 (i := 69) rfl rfl
set_option maxRecDepth 100000 in
theorem mw_1270 : (.selects "BreweryHouse$Ways" y_Wa_hasSpace y_Wa_hasSpace : Cond) ∈ lw_gd := tg_6 (i := 70) rfl rfl
set_option maxRecDepth 100000 in
theorem mw_1271 : (.code y_Wa_hasSpace b_Wa_hasSpace 3 (some .boolean) : Cond) ∈ lw_gd := tg_6 (i := 71) rfl rfl
set_option maxRecDepth 100000 in
theorem mw_1272 : (.methodLink "BreweryHouse$Ways" 75 y_St_isPipe : Cond) ∈ lw_gd := tg_6 (i := 72) rfl rfl
set_option maxRecDepth 100000 in
theorem mw_1273 : (.methodLink "BreweryHouse$Acts" 145 y_St_cleanSpace : Cond) ∈ lw_gd := tg_6 (i := 73) rfl rfl
set_option maxRecDepth 100000 in
theorem mw_1274 : (.instanceMethod y_St_cleanSpace : Cond) ∈ lw_gd := tg_6 (i := 74) rfl rfl
set_option maxRecDepth 100000 in
theorem mw_1275 : (.selects "BreweryHouse$Stock" y_St_cleanSpace y_St_cleanSpace : Cond) ∈ lw_gd := tg_6 (i := 75) rfl rfl
set_option maxRecDepth 100000 in
theorem mw_1276 : (.code y_St_cleanSpace b_St_cleanSpace 3 none : Cond) ∈ lw_gd := tg_6 (i := 76) rfl rfl
set_option maxRecDepth 100000 in
theorem mw_1277 : (.methodLink "BreweryHouse$Acts" 85 y_Ac_drainSpace : Cond) ∈ lw_gd := tg_6 (i := 77) rfl rfl
set_option maxRecDepth 100000 in
theorem mw_1279 : (.instanceMethod y_Ac_drainSpace : Cond) ∈ lw_gd := tg_6 (i := 79) rfl rfl
set_option maxRecDepth 100000 in
theorem mw_1280 : (.code y_Ac_drainSpace b_Ac_drainSpace 2 (some .int) : Cond) ∈ lw_gd := tg_6 (i := 80) rfl rfl
set_option maxRecDepth 100000 in
theorem mw_1281 : (.methodLink "BreweryHouse$Acts" 151 y_St_leave : Cond) ∈ lw_gd := tg_6 (i := 81) rfl rfl
set_option maxRecDepth 100000 in
theorem mw_1282 : (.instanceMethod y_St_leave : Cond) ∈ lw_gd := tg_6 (i := 82) rfl rfl
set_option maxRecDepth 100000 in
theorem mw_1283 : (.selects "BreweryHouse$Stock" y_St_leave y_St_leave : Cond) ∈ lw_gd := tg_6 (i := 83) rfl rfl
set_option maxRecDepth 100000 in
theorem mw_1284 : (.code y_St_leave b_St_leave 3 none : Cond) ∈ lw_gd := tg_6 (i := 84) rfl rfl
set_option maxRecDepth 100000 in
theorem mw_1285 : (.methodLink "BreweryHouse$Acts" 154 y_St_emptyCells : Cond) ∈ lw_gd := tg_6 (i := 85) rfl rfl
set_option maxRecDepth 100000 in
theorem mw_1286 : (.instanceMethod y_St_emptyCells : Cond) ∈ lw_gd := tg_6 (i := 86) rfl rfl
set_option maxRecDepth 100000 in
theorem mw_1287 : (.selects "BreweryHouse$Stock" y_St_emptyCells y_St_emptyCells : Cond) ∈ lw_gd := tg_6 (i := 87) rfl rfl
set_option maxRecDepth 100000 in
theorem mw_1288 : (.code y_St_emptyCells b_St_emptyCells 4 none : Cond) ∈ lw_gd := tg_6 (i := 88) rfl rfl
set_option maxRecDepth 100000 in
theorem mw_1289 : (.methodLink "BreweryHouse" 264 y_Al_add : Cond) ∈ lw_gd := tg_6 (i := 89) rfl rfl
set_option maxRecDepth 100000 in
theorem mw_1290 : (.instanceMethod y_Al_add : Cond) ∈ lw_gd := tg_6 (i := 90) rfl rfl
set_option maxRecDepth 100000 in
theorem mw_1291 : (.selects "BreweryHouse$Alarms" y_Al_add y_Al_add : Cond) ∈ lw_gd := tg_6 (i := 91) rfl rfl
set_option maxRecDepth 100000 in
theorem mw_1292 : (.code y_Al_add b_Al_add 4 none : Cond) ∈ lw_gd := tg_6 (i := 92) rfl rfl
set_option maxRecDepth 100000 in
theorem mw_1297 : (.methodLink "BreweryHouse" 270 y_Ru_isAlive : Cond) ∈ lw_gd := tg_6 (i := 97) rfl rfl
set_option maxRecDepth 100000 in
theorem mw_1298 : (.instanceMethod y_Ru_isAlive : Cond) ∈ lw_gd := tg_6 (i := 98) rfl rfl
set_option maxRecDepth 100000 in
theorem mw_1299 : (.selects "BreweryHouse$Run" y_Ru_isAlive y_Ru_isAlive : Cond) ∈ lw_gd := tg_6 (i := 99) rfl rfl
set_option maxRecDepth 100000 in
theorem mw_1300 : (.code y_Ru_isAlive b_Ru_isAlive 1 (some .boolean) : Cond) ∈ lw_gd := tg_6 (i := 100) rfl rfl
set_option maxRecDepth 100000 in
theorem mw_1301 : (.methodLink "BreweryHouse" 274 y_Pr_clearValues : Cond) ∈ lw_gd := tg_6 (i := 101) rfl rfl
set_option maxRecDepth 100000 in
theorem mw_1302 : (.instanceMethod y_Pr_clearValues : Cond) ∈ lw_gd := tg_6 (i := 102) rfl rfl
set_option maxRecDepth 100000 in
theorem mw_1303 : (.selects "BreweryHouse$Program" y_Pr_clearValues y_Pr_clearValues : Cond) ∈ lw_gd := tg_6 (i := 103) rfl rfl
set_option maxRecDepth 100000 in
theorem mw_1304 : (.code y_Pr_clearValues b_Pr_clearValues 2 none : Cond) ∈ lw_gd := tg_6 (i := 104) rfl rfl
set_option maxRecDepth 100000 in
theorem mw_1305 : (.methodLink "BreweryHouse$Program" 72 y_Pr_isSensed : Cond) ∈ lw_gd := tg_6 (i := 105) rfl rfl
set_option maxRecDepth 100000 in
theorem mw_1306 : (.instanceMethod y_Pr_isSensed : Cond) ∈ lw_gd := tg_6 (i := 106) rfl rfl
set_option maxRecDepth 100000 in
theorem mw_1307 : (.selects "BreweryHouse$Program" y_Pr_isSensed y_Pr_isSensed : Cond) ∈ lw_gd := tg_6 (i := 107) rfl rfl
set_option maxRecDepth 100000 in
theorem mw_1308 : (.code y_Pr_isSensed b_Pr_isSensed 2 (some .boolean) : Cond) ∈ lw_gd := tg_6 (i := 108) rfl rfl
set_option maxRecDepth 100000 in
theorem mw_1309 : (.methodLink "BreweryHouse$Program" 68 y_Pr_isSignal : Cond) ∈ lw_gd := tg_6 (i := 109) rfl rfl
set_option maxRecDepth 100000 in
theorem mw_1310 : (.methodLink "BreweryHouse" 277 y_Ru_begin : Cond) ∈ lw_gd := tg_6 (i := 110) rfl rfl
set_option maxRecDepth 100000 in
theorem mw_1311 : (.instanceMethod y_Ru_begin : Cond) ∈ lw_gd := tg_6 (i := 111) rfl rfl
set_option maxRecDepth 100000 in
theorem mw_1312 : (.selects "BreweryHouse$Run" y_Ru_begin y_Ru_begin : Cond) ∈ lw_gd := tg_6 (i := 112) rfl rfl
set_option maxRecDepth 100000 in
theorem mw_1313 : (.code y_Ru_begin b_Ru_begin 1 none : Cond) ∈ lw_gd := tg_6 (i := 113) rfl rfl
set_option maxRecDepth 100000 in
theorem mw_1314 : (.methodLink "BreweryHouse$Run" 81 y_Ru_enter : Cond) ∈ lw_gd := tg_6 (i := 114) rfl rfl
set_option maxRecDepth 100000 in
theorem mw_1316 : (.instanceMethod y_Ru_enter : Cond) ∈ lw_gd := tg_6 (i := 116) rfl rfl
set_option maxRecDepth 100000 in
theorem mw_1317 : (.code y_Ru_enter b_Ru_enter 2 none : Cond) ∈ lw_gd := tg_6 (i := 117) rfl rfl
set_option maxRecDepth 100000 in
theorem mw_1322 : (.methodLink "BreweryHouse" 280 y_Bh_senseAll : Cond) ∈ lw_gd := tg_6 (i := 122) rfl rfl
set_option maxRecDepth 100000 in
theorem mw_1324 : (.instanceMethod y_Bh_senseAll : Cond) ∈ lw_gd := tg_6 (i := 124) rfl rfl
set_option maxRecDepth 100000 in
theorem mw_1325 : (.code y_Bh_senseAll b_Bh_senseAll 6 none : Cond) ∈ lw_gd := tg_6 (i := 125) rfl rfl
set_option maxRecDepth 100000 in
theorem mw_1326 : (.methodLink "BreweryHouse" 295 y_Pr_isSensed : Cond) ∈ lw_gd := tg_6 (i := 126) rfl rfl
set_option maxRecDepth 100000 in
theorem mw_1327 : (.methodLink "BreweryHouse" 298 y_Bh_sensed : Cond) ∈ lw_gd := tg_6 (i := 127) rfl rfl
set_option maxRecDepth 100000 in
theorem mw_1329 : (.instanceMethod y_Bh_sensed : Cond) ∈ lw_gd := tg_6 (i := 129) rfl rfl
set_option maxRecDepth 100000 in
theorem mw_1330 : (.code y_Bh_sensed b_Bh_sensed 3 (some .long) : Cond) ∈ lw_gd := tg_6 (i := 130) rfl rfl
set_option maxRecDepth 100000 in
theorem mw_1331 : (.constantLong "BreweryHouse" 302 (-1) : Cond) ∈ lw_gd := tg_6 (i := 131) rfl rfl
set_option maxRecDepth 100000 in
theorem mw_1332 : (.methodLink "BreweryHouse" 306 y_St_isHolder : Cond) ∈ lw_gd := tg_6 (i := 132) rfl rfl
set_option maxRecDepth 100000 in
theorem mw_1333 : (.methodLink "BreweryHouse" 309 y_St_isValve : Cond) ∈ lw_gd := tg_6 (i := 133) rfl rfl
set_option maxRecDepth 100000 in
theorem mw_1334 : (.constantLong "BreweryHouse" 304 1000 : Cond) ∈ lw_gd := tg_6 (i := 134) rfl rfl
set_option maxRecDepth 100000 in
theorem mw_1335 : (.methodLink "BreweryHouse" 283 y_Ro_countSecond : Cond) ∈ lw_gd := tg_6 (i := 135) rfl rfl
set_option maxRecDepth 100000 in
theorem mw_1336 : (.instanceMethod y_Ro_countSecond : Cond) ∈ lw_gd := tg_6 (i := 136) rfl rfl
set_option maxRecDepth 100000 in
theorem mw_1337 : (.selects "BreweryHouse$Rows" y_Ro_countSecond y_Ro_countSecond : Cond) ∈ lw_gd := tg_6 (i := 137) rfl rfl
set_option maxRecDepth 100000 in
theorem mw_1338 : (.code y_Ro_countSecond b_Ro_countSecond 3 none : Cond) ∈ lw_gd := tg_6 (i := 138) rfl rfl
set_option maxRecDepth 100000 in
theorem mw_1339 : (.constant "BreweryHouse$Rows" 50 1000000 : Cond) ∈ lw_gd := tg_6 (i := 139) rfl rfl
set_option maxRecDepth 100000 in
theorem mw_1340 : (.methodLink "BreweryHouse$Rows" 51 y_Ma_min : Cond) ∈ lw_gd := tg_6 (i := 140) rfl rfl
set_option maxRecDepth 100000 in
theorem mw_1341 : (.methodLink "BreweryHouse" 286 y_Ru_walk : Cond) ∈ lw_gd := tg_6 (i := 141) rfl rfl
set_option maxRecDepth 100000 in
theorem mw_1342 : (.instanceMethod y_Ru_walk : Cond) ∈ lw_gd := tg_6 (i := 142) rfl rfl
set_option maxRecDepth 100000 in
theorem mw_1343 : (.selects "BreweryHouse$Run" y_Ru_walk y_Ru_walk : Cond) ∈ lw_gd := tg_6 (i := 143) rfl rfl
set_option maxRecDepth 100000 in
theorem mw_1344 : (.code y_Ru_walk b_Ru_walk 2 none : Cond) ∈ lw_gd := tg_6 (i := 144) rfl rfl
set_option maxRecDepth 100000 in
theorem mw_1345 : (.methodLink "BreweryHouse$Run" 99 y_Ru_lookAtLimits : Cond) ∈ lw_gd := tg_6 (i := 145) rfl rfl
set_option maxRecDepth 100000 in
theorem mw_1347 : (.instanceMethod y_Ru_lookAtLimits : Cond) ∈ lw_gd := tg_6 (i := 147) rfl rfl
set_option maxRecDepth 100000 in
theorem mw_1348 : (.code y_Ru_lookAtLimits b_Ru_lookAtLimits 7 none : Cond) ∈ lw_gd := tg_6 (i := 148) rfl rfl
set_option maxRecDepth 100000 in
theorem mw_1349 : (.methodLink "BreweryHouse$Run" 103 y_Ru_isOver : Cond) ∈ lw_gd := tg_6 (i := 149) rfl rfl
set_option maxRecDepth 100000 in
theorem mw_1351 : (.instanceMethod y_Ru_isOver : Cond) ∈ lw_gd := tg_6 (i := 151) rfl rfl
set_option maxRecDepth 100000 in
theorem mw_1352 : (.code y_Ru_isOver b_Ru_isOver 1 (some .boolean) : Cond) ∈ lw_gd := tg_6 (i := 152) rfl rfl
set_option maxRecDepth 100000 in
theorem mw_1353 : (.methodLink "BreweryHouse$Run" 125 y_Ru_lookAtLimit : Cond) ∈ lw_gd := tg_6 (i := 153) rfl rfl
set_option maxRecDepth 100000 in
theorem mw_1355 : (.instanceMethod y_Ru_lookAtLimit : Cond) ∈ lw_gd := tg_6 (i := 155) rfl rfl
set_option maxRecDepth 100000 in
theorem mw_1356 : (.code y_Ru_lookAtLimit b_Ru_lookAtLimit 4 none : Cond) ∈ lw_gd := tg_6 (i := 156) rfl rfl
set_option maxRecDepth 100000 in
theorem mw_1357 : (.methodLink "BreweryHouse$Run" 134 y_Ru_reckon : Cond) ∈ lw_gd := tg_6 (i := 157) rfl rfl
set_option maxRecDepth 100000 in
theorem mw_1359 : (.instanceMethod y_Ru_reckon : Cond) ∈ lw_gd := tg_6 (i := 159) rfl rfl
set_option maxRecDepth 100000 in
theorem mw_1360 : (.code y_Ru_reckon b_Ru_reckon 6 (some .long) : Cond) ∈ lw_gd := tg_6 (i := 160) rfl rfl
set_option maxRecDepth 100000 in
theorem mw_1361 : (.methodLink "BreweryHouse$Run" 141 y_Ru_fault : Cond) ∈ lw_gd := tg_6 (i := 161) rfl rfl
set_option maxRecDepth 100000 in
theorem mw_1363 : (.instanceMethod y_Ru_fault : Cond) ∈ lw_gd := tg_6 (i := 163) rfl rfl
set_option maxRecDepth 100000 in
theorem mw_1364 : (.code y_Ru_fault b_Ru_fault 3 none : Cond) ∈ lw_gd := tg_6 (i := 164) rfl rfl
set_option maxRecDepth 100000 in
theorem mw_1365 : (.methodLink "BreweryHouse$Run" 116 y_Al_add : Cond) ∈ lw_gd := tg_6 (i := 165) rfl rfl
set_option maxRecDepth 100000 in
theorem mw_1366 : (.methodLink "BreweryHouse$Run" 208 y_Ru_apply : Cond) ∈ lw_gd := tg_6 (i := 166) rfl rfl
set_option maxRecDepth 100000 in
theorem mw_1367 : (.static y_Ru_apply : Cond) ∈ lw_gd := tg_6 (i := 167) rfl rfl
set_option maxRecDepth 100000 in
theorem mw_1368 : (.code y_Ru_apply b_Ru_apply 5 (some .long) : Cond) ∈ lw_gd := tg_6 (i := 168) rfl rfl
set_option maxRecDepth 100000 in
theorem mw_1369 : (.constantLong "BreweryHouse$Run" 187 1000 : Cond) ∈ lw_gd := tg_6 (i := 169) rfl rfl
set_option maxRecDepth 100000 in
theorem mw_1370 : (.methodLink "BreweryHouse$Run" 138 y_Ru_choose : Cond) ∈ lw_gd := tg_6 (i := 170) rfl rfl
set_option maxRecDepth 100000 in
theorem mw_1372 : (.instanceMethod y_Ru_choose : Cond) ∈ lw_gd := tg_6 (i := 172) rfl rfl
set_option maxRecDepth 100000 in
theorem mw_1373 : (.code y_Ru_choose b_Ru_choose 3 none : Cond) ∈ lw_gd := tg_6 (i := 173) rfl rfl
set_option maxRecDepth 100000 in
theorem mw_1374 : (.methodLink "BreweryHouse$Run" 107 y_Ru_goOn : Cond) ∈ lw_gd := tg_6 (i := 174) rfl rfl
set_option maxRecDepth 100000 in
theorem mw_1376 : (.instanceMethod y_Ru_goOn : Cond) ∈ lw_gd := tg_6 (i := 176) rfl rfl
set_option maxRecDepth 100000 in
theorem mw_1377 : (.code y_Ru_goOn b_Ru_goOn 5 (some .boolean) : Cond) ∈ lw_gd := tg_6 (i := 177) rfl rfl
set_option maxRecDepth 100000 in
theorem mw_1378 : (.methodLink "BreweryHouse$Run" 144 y_Ru_mayBegin : Cond) ∈ lw_gd := tg_6 (i := 178) rfl rfl
set_option maxRecDepth 100000 in
theorem mw_1380 : (.instanceMethod y_Ru_mayBegin : Cond) ∈ lw_gd := tg_6 (i := 180) rfl rfl
set_option maxRecDepth 100000 in
theorem mw_1381 : (.code y_Ru_mayBegin b_Ru_mayBegin 3 (some .boolean) : Cond) ∈ lw_gd := tg_6 (i := 181) rfl rfl
set_option maxRecDepth 100000 in
theorem mw_1382 : (.methodLink "BreweryHouse$Run" 148 y_Ru_goesPast : Cond) ∈ lw_gd := tg_6 (i := 182) rfl rfl
set_option maxRecDepth 100000 in
theorem mw_1384 : (.instanceMethod y_Ru_goesPast : Cond) ∈ lw_gd := tg_6 (i := 184) rfl rfl
set_option maxRecDepth 100000 in
theorem mw_1385 : (.code y_Ru_goesPast b_Ru_goesPast 5 (some .boolean) : Cond) ∈ lw_gd := tg_6 (i := 185) rfl rfl
set_option maxRecDepth 100000 in
theorem mw_1386 : (.methodLink "BreweryHouse$Run" 151 y_Ru_lookAgain : Cond) ∈ lw_gd := tg_6 (i := 186) rfl rfl
set_option maxRecDepth 100000 in
theorem mw_1388 : (.instanceMethod y_Ru_lookAgain : Cond) ∈ lw_gd := tg_6 (i := 188) rfl rfl
set_option maxRecDepth 100000 in
theorem mw_1389 : (.code y_Ru_lookAgain b_Ru_lookAgain 4 (some .int) : Cond) ∈ lw_gd := tg_6 (i := 189) rfl rfl
set_option maxRecDepth 100000 in
theorem mw_1390 : (.methodLink "BreweryHouse$Run" 196 y_Ru_rampOn : Cond) ∈ lw_gd := tg_6 (i := 190) rfl rfl
set_option maxRecDepth 100000 in
theorem mw_1392 : (.instanceMethod y_Ru_rampOn : Cond) ∈ lw_gd := tg_6 (i := 192) rfl rfl
set_option maxRecDepth 100000 in
theorem mw_1393 : (.code y_Ru_rampOn b_Ru_rampOn 4 (some .int) : Cond) ∈ lw_gd := tg_6 (i := 193) rfl rfl
set_option maxRecDepth 100000 in
theorem mw_1394 : (.methodLink "BreweryHouse$Run" 183 y_Ru_setValue : Cond) ∈ lw_gd := tg_6 (i := 194) rfl rfl
set_option maxRecDepth 100000 in
theorem mw_1396 : (.instanceMethod y_Ru_setValue : Cond) ∈ lw_gd := tg_6 (i := 196) rfl rfl
set_option maxRecDepth 100000 in
theorem mw_1397 : (.code y_Ru_setValue b_Ru_setValue 4 none : Cond) ∈ lw_gd := tg_6 (i := 197) rfl rfl
set_option maxRecDepth 100000 in
theorem mw_1398 : (.methodLink "BreweryHouse$Run" 199 y_Ma_floorDiv : Cond) ∈ lw_gd := tg_6 (i := 198) rfl rfl
set_option maxRecDepth 100000 in
theorem mw_1399 : (.static y_Ma_floorDiv : Cond) ∈ lw_gd := tg_6 (i := 199) rfl rfl
set_option maxRecDepth 100000 in
theorem mw_1400 : (.code y_Ma_floorDiv b_Ma_floorDiv 6 (some .long) : Cond) ∈ lw_gd := tg_6 (i := 200) rfl rfl
set_option maxRecDepth 100000 in
theorem mw_1401 : (.methodLink "BreweryHouse$Run" 154 y_Ru_beginReckoned : Cond) ∈ lw_gd := tg_6 (i := 201) rfl rfl
set_option maxRecDepth 100000 in
theorem mw_1403 : (.instanceMethod y_Ru_beginReckoned : Cond) ∈ lw_gd := tg_6 (i := 203) rfl rfl
set_option maxRecDepth 100000 in
theorem mw_1404 : (.code y_Ru_beginReckoned b_Ru_beginReckoned 6 (some .int) : Cond) ∈ lw_gd := tg_6 (i := 204) rfl rfl
set_option maxRecDepth 100000 in
theorem mw_1405 : (.methodLink "BreweryHouse$Run" 174 y_Ru_stand : Cond) ∈ lw_gd := tg_6 (i := 205) rfl rfl
set_option maxRecDepth 100000 in
theorem mw_1407 : (.instanceMethod y_Ru_stand : Cond) ∈ lw_gd := tg_6 (i := 207) rfl rfl
set_option maxRecDepth 100000 in
theorem mw_1408 : (.code y_Ru_stand b_Ru_stand 2 (some .int) : Cond) ∈ lw_gd := tg_6 (i := 208) rfl rfl
set_option maxRecDepth 100000 in
theorem mw_1409 : (.methodLink "BreweryHouse$Run" 189 y_Ru_beginRamp : Cond) ∈ lw_gd := tg_6 (i := 209) rfl rfl
set_option maxRecDepth 100000 in
theorem mw_1411 : (.instanceMethod y_Ru_beginRamp : Cond) ∈ lw_gd := tg_6 (i := 211) rfl rfl
set_option maxRecDepth 100000 in
theorem mw_1412 : (.code y_Ru_beginRamp b_Ru_beginRamp 7 (some .int) : Cond) ∈ lw_gd := tg_6 (i := 212) rfl rfl
set_option maxRecDepth 100000 in
theorem mw_1413 : (.methodLink "BreweryHouse$Run" 180 y_Ru_goInside : Cond) ∈ lw_gd := tg_6 (i := 213) rfl rfl
set_option maxRecDepth 100000 in
theorem mw_1415 : (.instanceMethod y_Ru_goInside : Cond) ∈ lw_gd := tg_6 (i := 215) rfl rfl
set_option maxRecDepth 100000 in
theorem mw_1416 : (.code y_Ru_goInside b_Ru_goInside 3 (some .int) : Cond) ∈ lw_gd := tg_6 (i := 216) rfl rfl
set_option maxRecDepth 100000 in
theorem mw_1417 : (.methodLink "BreweryHouse$Run" 157 y_Ru_beginPlain : Cond) ∈ lw_gd := tg_6 (i := 217) rfl rfl
set_option maxRecDepth 100000 in
theorem mw_1419 : (.instanceMethod y_Ru_beginPlain : Cond) ∈ lw_gd := tg_6 (i := 219) rfl rfl
set_option maxRecDepth 100000 in
theorem mw_1420 : (.code y_Ru_beginPlain b_Ru_beginPlain 5 (some .int) : Cond) ∈ lw_gd := tg_6 (i := 220) rfl rfl
set_option maxRecDepth 100000 in
theorem mw_1421 : (.methodLink "BreweryHouse$Run" 169 y_Ac_perform : Cond) ∈ lw_gd := tg_6 (i := 221) rfl rfl
set_option maxRecDepth 100000 in
theorem mw_1422 : (.methodLink "BreweryHouse$Run" 177 y_Ru_beginPar : Cond) ∈ lw_gd := tg_6 (i := 222) rfl rfl
set_option maxRecDepth 100000 in
theorem mw_1424 : (.instanceMethod y_Ru_beginPar : Cond) ∈ lw_gd := tg_6 (i := 224) rfl rfl
set_option maxRecDepth 100000 in
theorem mw_1425 : (.code y_Ru_beginPar b_Ru_beginPar 4 (some .int) : Cond) ∈ lw_gd := tg_6 (i := 225) rfl rfl
set_option maxRecDepth 100000 in
theorem mw_1426 : (.methodLink "BreweryHouse$Run" 160 y_Ru_endsAllSides : Cond) ∈ lw_gd := tg_6 (i := 226) rfl rfl
set_option maxRecDepth 100000 in
theorem mw_1428 : (.instanceMethod y_Ru_endsAllSides : Cond) ∈ lw_gd := tg_6 (i := 228) rfl rfl
set_option maxRecDepth 100000 in
theorem mw_1429 : (.code y_Ru_endsAllSides b_Ru_endsAllSides 6 (some .boolean) : Cond) ∈ lw_gd := tg_6 (i := 229) rfl rfl
set_option maxRecDepth 100000 in
theorem mw_1430 : (.methodLink "BreweryHouse$Run" 163 y_Ru_endsRounds : Cond) ∈ lw_gd := tg_6 (i := 230) rfl rfl
set_option maxRecDepth 100000 in
theorem mw_1432 : (.instanceMethod y_Ru_endsRounds : Cond) ∈ lw_gd := tg_6 (i := 232) rfl rfl
set_option maxRecDepth 100000 in
theorem mw_1433 : (.code y_Ru_endsRounds b_Ru_endsRounds 4 (some .boolean) : Cond) ∈ lw_gd := tg_6 (i := 233) rfl rfl
set_option maxRecDepth 100000 in
theorem mw_1434 : (.methodLink "BreweryHouse" 289 y_Wa_move : Cond) ∈ lw_gd := tg_6 (i := 234) rfl rfl
set_option maxRecDepth 100000 in
theorem mw_1435 : (.instanceMethod y_Wa_move : Cond) ∈ lw_gd := tg_6 (i := 235) rfl rfl
set_option maxRecDepth 100000 in
theorem mw_1436 : (.selects "BreweryHouse$Ways" y_Wa_move y_Wa_move : Cond) ∈ lw_gd := tg_6 (i := 236) rfl rfl
set_option maxRecDepth 100000 in
theorem mw_1437 : (.code y_Wa_move b_Wa_move 3 none : Cond) ∈ lw_gd := tg_6 (i := 237) rfl rfl
set_option maxRecDepth 100000 in
theorem mw_1438 : (.methodLink "BreweryHouse$Ways" 129 y_Wa_movesLitre : Cond) ∈ lw_gd := tg_6 (i := 238) rfl rfl
set_option maxRecDepth 100000 in
theorem mw_1440 : (.instanceMethod y_Wa_movesLitre : Cond) ∈ lw_gd := tg_7 (i := 0) rfl rfl
set_option maxRecDepth 100000 in
theorem mw_1441 : (.code y_Wa_movesLitre b_Wa_movesLitre 7 (some .boolean) : Cond) ∈ lw_gd := tg_7 (i := 1) rfl rfl
set_option maxRecDepth 100000 in
theorem mw_1442 : (.methodLink "BreweryHouse$Ways" 132 y_Wa_goesForth : Cond) ∈ lw_gd := tg_7 (i := 2) rfl rfl
set_option maxRecDepth 100000 in
theorem mw_1444 : (.instanceMethod y_Wa_goesForth : Cond) ∈ lw_gd := tg_7 (i := 4) rfl rfl
set_option maxRecDepth 100000 in
theorem mw_1445 : (.code y_Wa_goesForth b_Wa_goesForth 2 (some .boolean) : Cond) ∈ lw_gd := tg_7 (i := 5) rfl rfl
set_option maxRecDepth 100000 in
theorem mw_1446 : (.methodLink "BreweryHouse$Ways" 135 y_St_wouldLeave : Cond) ∈ lw_gd := tg_7 (i := 6) rfl rfl
set_option maxRecDepth 100000 in
theorem mw_1447 : (.instanceMethod y_St_wouldLeave : Cond) ∈ lw_gd := tg_7 (i := 7) rfl rfl
set_option maxRecDepth 100000 in
theorem mw_1448 : (.selects "BreweryHouse$Stock" y_St_wouldLeave y_St_wouldLeave : Cond) ∈ lw_gd := tg_7 (i := 8) rfl rfl
set_option maxRecDepth 100000 in
theorem mw_1449 : (.code y_St_wouldLeave b_St_wouldLeave 3 (some .boolean) : Cond) ∈ lw_gd := tg_7 (i := 9) rfl rfl
set_option maxRecDepth 100000 in
theorem mw_1450 : (.methodLink "BreweryHouse$Stock" 97 y_St_leavingCell : Cond) ∈ lw_gd := tg_7 (i := 10) rfl rfl
set_option maxRecDepth 100000 in
theorem mw_1452 : (.instanceMethod y_St_leavingCell : Cond) ∈ lw_gd := tg_7 (i := 12) rfl rfl
set_option maxRecDepth 100000 in
theorem mw_1453 : (.code y_St_leavingCell b_St_leavingCell 4 (some .int) : Cond) ∈ lw_gd := tg_7 (i := 13) rfl rfl
set_option maxRecDepth 100000 in
theorem mw_1454 : (.methodLink "BreweryHouse$Stock" 101 y_St_isFull : Cond) ∈ lw_gd := tg_7 (i := 14) rfl rfl
set_option maxRecDepth 100000 in
theorem mw_1456 : (.instanceMethod y_St_isFull : Cond) ∈ lw_gd := tg_7 (i := 16) rfl rfl
set_option maxRecDepth 100000 in
theorem mw_1457 : (.code y_St_isFull b_St_isFull 3 (some .boolean) : Cond) ∈ lw_gd := tg_7 (i := 17) rfl rfl
set_option maxRecDepth 100000 in
theorem mw_1458 : (.methodLink "BreweryHouse$Ways" 145 y_St_mayCome : Cond) ∈ lw_gd := tg_7 (i := 18) rfl rfl
set_option maxRecDepth 100000 in
theorem mw_1459 : (.methodLink "BreweryHouse$Ways" 149 y_St_leave : Cond) ∈ lw_gd := tg_7 (i := 19) rfl rfl
set_option maxRecDepth 100000 in
theorem mw_1460 : (.methodLink "BreweryHouse$Ways" 153 y_St_push : Cond) ∈ lw_gd := tg_7 (i := 20) rfl rfl
set_option maxRecDepth 100000 in
theorem mw_1461 : (.instanceMethod y_St_push : Cond) ∈ lw_gd := tg_7 (i := 21) rfl rfl
set_option maxRecDepth 100000 in
theorem mw_1462 : (.selects "BreweryHouse$Stock" y_St_push y_St_push : Cond) ∈ lw_gd := tg_7 (i := 22) rfl rfl
set_option maxRecDepth 100000 in
theorem mw_1463 : (.code y_St_push b_St_push 11 (some .boolean) : Cond) ∈ lw_gd := tg_7 (i := 23) rfl rfl
set_option maxRecDepth 100000 in
theorem mw_1464 : (.constantLong "BreweryHouse$Stock" 105 (-1) : Cond) ∈ lw_gd := tg_7 (i := 24) rfl rfl
set_option maxRecDepth 100000 in
theorem mw_1465 : (.methodLink "BreweryHouse$Stock" 107 y_St_arrive : Cond) ∈ lw_gd := tg_7 (i := 25) rfl rfl
set_option maxRecDepth 100000 in
theorem mw_1466 : (.methodLink "BreweryHouse$Stock" 111 y_St_leave : Cond) ∈ lw_gd := tg_7 (i := 26) rfl rfl
set_option maxRecDepth 100000 in
theorem mw_1467 : (.methodLink "BreweryHouse$Ways" 157 y_St_arrive : Cond) ∈ lw_gd := tg_7 (i := 27) rfl rfl
set_option maxRecDepth 100000 in
theorem mw_1472 : (.methodLink "BreweryHouse" 316 y_Ru_giveAnswer : Cond) ∈ lw_gd := tg_7 (i := 32) rfl rfl
set_option maxRecDepth 100000 in
theorem mw_1473 : (.instanceMethod y_Ru_giveAnswer : Cond) ∈ lw_gd := tg_7 (i := 33) rfl rfl
set_option maxRecDepth 100000 in
theorem mw_1474 : (.selects "BreweryHouse$Run" y_Ru_giveAnswer y_Ru_giveAnswer : Cond) ∈ lw_gd := tg_7 (i := 34) rfl rfl
set_option maxRecDepth 100000 in
theorem mw_1475 : (.code y_Ru_giveAnswer b_Ru_giveAnswer 4 (some .boolean) : Cond) ∈ lw_gd := tg_7 (i := 35) rfl rfl
set_option maxRecDepth 100000 in
theorem mw_1476 : (.methodLink "BreweryHouse$Run" 212 y_Ru_seek : Cond) ∈ lw_gd := tg_7 (i := 36) rfl rfl
set_option maxRecDepth 100000 in
theorem mw_1478 : (.instanceMethod y_Ru_seek : Cond) ∈ lw_gd := tg_7 (i := 38) rfl rfl
set_option maxRecDepth 100000 in
theorem mw_1479 : (.code y_Ru_seek b_Ru_seek 9 (some .int) : Cond) ∈ lw_gd := tg_7 (i := 39) rfl rfl
set_option maxRecDepth 100000 in
theorem mw_1492 : (.methodLink "BreweryHouse" 320 y_Ro_has : Cond) ∈ lw_gd := tg_7 (i := 52) rfl rfl
set_option maxRecDepth 100000 in
theorem mw_1493 : (.instanceMethod y_Ro_has : Cond) ∈ lw_gd := tg_7 (i := 53) rfl rfl
set_option maxRecDepth 100000 in
theorem mw_1494 : (.selects "BreweryHouse$Rows" y_Ro_has y_Ro_has : Cond) ∈ lw_gd := tg_7 (i := 54) rfl rfl
set_option maxRecDepth 100000 in
theorem mw_1495 : (.code y_Ro_has b_Ro_has 2 (some .boolean) : Cond) ∈ lw_gd := tg_7 (i := 55) rfl rfl
set_option maxRecDepth 100000 in
theorem mw_1496 : (.methodLink "BreweryHouse" 323 y_Bh_isPerson : Cond) ∈ lw_gd := tg_7 (i := 56) rfl rfl
set_option maxRecDepth 100000 in
theorem mw_1497 : (.static y_Bh_isPerson : Cond) ∈ lw_gd := tg_7 (i := 57) rfl rfl
set_option maxRecDepth 100000 in
theorem mw_1498 : (.code y_Bh_isPerson b_Bh_isPerson 1 (some .boolean) : Cond) ∈ lw_gd := tg_7 (i := 58) rfl rfl
set_option maxRecDepth 100000 in
theorem mw_1503 : (.methodLink "BreweryHouse" 333 y_Ro_isOn : Cond) ∈ lw_gd := tg_7 (i := 63) rfl rfl
set_option maxRecDepth 100000 in
theorem mw_1508 : (.methodLink "BreweryHouse" 336 y_Ro_barring : Cond) ∈ lw_gd := tg_7 (i := 68) rfl rfl
set_option maxRecDepth 100000 in
theorem mw_1521 : (.methodLink "BreweryHouse" 342 y_Pr_hasValue : Cond) ∈ lw_gd := tg_7 (i := 81) rfl rfl
set_option maxRecDepth 100000 in
theorem mw_1526 : (.methodLink "BreweryHouse" 345 y_Ru_standingNode : Cond) ∈ lw_gd := tg_7 (i := 86) rfl rfl
set_option maxRecDepth 100000 in
theorem mw_1527 : (.instanceMethod y_Ru_standingNode : Cond) ∈ lw_gd := tg_7 (i := 87) rfl rfl
set_option maxRecDepth 100000 in
theorem mw_1528 : (.selects "BreweryHouse$Run" y_Ru_standingNode y_Ru_standingNode : Cond) ∈ lw_gd := tg_7 (i := 88) rfl rfl
set_option maxRecDepth 100000 in
theorem mw_1529 : (.code y_Ru_standingNode b_Ru_standingNode 3 (some .int) : Cond) ∈ lw_gd := tg_7 (i := 89) rfl rfl
set_option maxRecDepth 100000 in
theorem mw_1530 : (.methodLink "BreweryHouse$Run" 219 y_Ru_isAlive : Cond) ∈ lw_gd := tg_7 (i := 90) rfl rfl
set_option maxRecDepth 100000 in
theorem mw_1535 : (.methodLink "BreweryHouse" 348 y_Al_get : Cond) ∈ lw_gd := tg_7 (i := 95) rfl rfl
set_option maxRecDepth 100000 in
theorem mw_1536 : (.instanceMethod y_Al_get : Cond) ∈ lw_gd := tg_7 (i := 96) rfl rfl
set_option maxRecDepth 100000 in
theorem mw_1537 : (.selects "BreweryHouse$Alarms" y_Al_get y_Al_get : Cond) ∈ lw_gd := tg_7 (i := 97) rfl rfl
set_option maxRecDepth 100000 in
theorem mw_1538 : (.code y_Al_get b_Al_get 3 (some .int) : Cond) ∈ lw_gd := tg_7 (i := 98) rfl rfl
set_option maxRecDepth 100000 in
theorem mw_1543 : (.methodLink "BreweryHouse" 352 y_Wa_get : Cond) ∈ lw_gd := tg_7 (i := 103) rfl rfl
set_option maxRecDepth 100000 in
theorem mw_1544 : (.instanceMethod y_Wa_get : Cond) ∈ lw_gd := tg_7 (i := 104) rfl rfl
set_option maxRecDepth 100000 in
theorem mw_1545 : (.selects "BreweryHouse$Ways" y_Wa_get y_Wa_get : Cond) ∈ lw_gd := tg_7 (i := 105) rfl rfl
set_option maxRecDepth 100000 in
theorem mw_1546 : (.code y_Wa_get b_Wa_get 5 (some .int) : Cond) ∈ lw_gd := tg_7 (i := 106) rfl rfl
set_option maxRecDepth 100000 in
theorem mw_1551 : (.methodLink "BreweryHouse" 356 y_St_levelOf : Cond) ∈ lw_gd := tg_7 (i := 111) rfl rfl
set_option maxRecDepth 100000 in
theorem mw_1552 : (.instanceMethod y_St_levelOf : Cond) ∈ lw_gd := tg_7 (i := 112) rfl rfl
set_option maxRecDepth 100000 in
theorem mw_1553 : (.selects "BreweryHouse$Stock" y_St_levelOf y_St_levelOf : Cond) ∈ lw_gd := tg_7 (i := 113) rfl rfl
set_option maxRecDepth 100000 in
theorem mw_1554 : (.code y_St_levelOf b_St_levelOf 2 (some .int) : Cond) ∈ lw_gd := tg_7 (i := 114) rfl rfl
set_option maxRecDepth 100000 in
theorem mw_1579 : (.fieldLink "BreweryHouseModel$Text" 11 "BreweryHouseModel$Text" "text" "[B" : Cond) ∈ lw_gd := tg_7 (i := 139) rfl rfl
set_option maxRecDepth 100000 in
theorem mw_1580 : (.fieldLink "BreweryHouseModel$Text" 65 "BreweryHouseModel$Text" "size" "I" : Cond) ∈ lw_gd := tg_7 (i := 140) rfl rfl
set_option maxRecDepth 100000 in
theorem mw_1581 : (.fieldLink "BreweryHouseModel$Text" 133 "BreweryHouseModel$Text" "place" "I" : Cond) ∈ lw_gd := tg_7 (i := 141) rfl rfl
set_option maxRecDepth 100000 in
theorem mw_1582 : (.fieldLink "BreweryHouseModel$Text" 140 "BreweryHouseModel$Text" "nowLine" "I" : Cond) ∈ lw_gd := tg_7 (i := 142) rfl rfl
set_option maxRecDepth 100000 in
theorem mw_1583 : (.fieldLink "BreweryHouseModel$Text" 146 "BreweryHouseModel$Text" "token" "I" : Cond) ∈ lw_gd := tg_7 (i := 143) rfl rfl
set_option maxRecDepth 100000 in
theorem mw_1584 : (.fieldLink "BreweryHouseModel$Text" 69 "BreweryHouseModel$Text" "begin" "I" : Cond) ∈ lw_gd := tg_7 (i := 144) rfl rfl
set_option maxRecDepth 100000 in
theorem mw_1585 : (.fieldLink "BreweryHouseModel$Text" 72 "BreweryHouseModel$Text" "end" "I" : Cond) ∈ lw_gd := tg_7 (i := 145) rfl rfl
set_option maxRecDepth 100000 in
theorem mw_1586 : (.fieldLink "BreweryHouseModel$Text" 143 "BreweryHouseModel$Text" "tokenLine" "I" : Cond) ∈ lw_gd := tg_7 (i := 146) rfl rfl
set_option maxRecDepth 100000 in
theorem mw_1587 : (.fieldLink "BreweryHouseModel$Text" 166 "BreweryHouseModel$Text" "value" "J" : Cond) ∈ lw_gd := tg_7 (i := 147) rfl rfl
set_option maxRecDepth 100000 in
theorem mw_1588 : (.fieldLink "BreweryHouseModel$Text" 176 "BreweryHouseModel$Text" "pointed" "Z" : Cond) ∈ lw_gd := tg_7 (i := 148) rfl rfl
set_option maxRecDepth 100000 in
theorem mw_1589 : (.fieldLink "BreweryHouseModel$Text" 159 "BreweryHouseModel$Text" "wrong" "I" : Cond) ∈ lw_gd := tg_7 (i := 149) rfl rfl
set_option maxRecDepth 100000 in
theorem mw_1590 : (.fieldLink "BreweryHouseModel$Text" 228 "BreweryHouseModel$Text" "open" "I" : Cond) ∈ lw_gd := tg_7 (i := 150) rfl rfl
set_option maxRecDepth 100000 in
theorem mw_1591 : (.fieldLink "BreweryHouseModel$Text" 186 "BreweryHouseModel$Text" "half" "I" : Cond) ∈ lw_gd := tg_7 (i := 151) rfl rfl
set_option maxRecDepth 100000 in
theorem mw_1593 : (.fieldLink "BreweryHouseModel$Text" 189 "BreweryHouseModel$Text" "nodes" "I" : Cond) ∈ lw_gd := tg_7 (i := 153) rfl rfl
set_option maxRecDepth 100000 in
theorem mw_1594 : (.fieldLink "BreweryHouseModel$Text" 15 "BreweryHouseModel$Text" "whats" "[I" : Cond) ∈ lw_gd := tg_7 (i := 154) rfl rfl
set_option maxRecDepth 100000 in
theorem mw_1596 : (.fieldLink "BreweryHouseModel$Text" 19 "BreweryHouseModel$Text" "numbers" "[J" : Cond) ∈ lw_gd := tg_7 (i := 156) rfl rfl
set_option maxRecDepth 100000 in
theorem mw_1598 : (.fieldLink "BreweryHouseModel$Text" 23 "BreweryHouseModel$Text" "lines" "[I" : Cond) ∈ lw_gd := tg_7 (i := 158) rfl rfl
set_option maxRecDepth 100000 in
theorem mw_1599 : (.fieldLink "BreweryHouseModel$Text" 26 "BreweryHouseModel$Text" "units" "[I" : Cond) ∈ lw_gd := tg_7 (i := 159) rfl rfl
set_option maxRecDepth 100000 in
theorem mw_1600 : (.fieldLink "BreweryHouseModel$Text" 29 "BreweryHouseModel$Text" "kidAt" "[I" : Cond) ∈ lw_gd := tg_7 (i := 160) rfl rfl
set_option maxRecDepth 100000 in
theorem mw_1601 : (.fieldLink "BreweryHouseModel$Text" 32 "BreweryHouseModel$Text" "kidCount" "[I" : Cond) ∈ lw_gd := tg_7 (i := 161) rfl rfl
set_option maxRecDepth 100000 in
theorem mw_1603 : (.fieldLink "BreweryHouseModel$Text" 35 "BreweryHouseModel$Text" "kids" "[I" : Cond) ∈ lw_gd := tg_7 (i := 163) rfl rfl
set_option maxRecDepth 100000 in
theorem mw_1604 : (.fieldLink "BreweryHouseModel$Text" 198 "BreweryHouseModel$Text" "kidsMade" "I" : Cond) ∈ lw_gd := tg_7 (i := 164) rfl rfl
set_option maxRecDepth 100000 in
theorem mw_1605 : (.fieldLink "BreweryHouseModel$Text" 38 "BreweryHouseModel$Text" "tops" "[I" : Cond) ∈ lw_gd := tg_7 (i := 165) rfl rfl
set_option maxRecDepth 100000 in
theorem mw_1607 : (.fieldLink "BreweryHouseModel$Text" 281 "BreweryHouseModel$Text" "topsMade" "I" : Cond) ∈ lw_gd := tg_7 (i := 167) rfl rfl
set_option maxRecDepth 100000 in
theorem mw_1608 : (.fieldLink "BreweryHouseModel$Text" 252 "BreweryHouseModel$Text" "names" "I" : Cond) ∈ lw_gd := tg_7 (i := 168) rfl rfl
set_option maxRecDepth 100000 in
theorem mw_1609 : (.fieldLink "BreweryHouseModel$Text" 41 "BreweryHouseModel$Text" "letters" "[B" : Cond) ∈ lw_gd := tg_7 (i := 169) rfl rfl
set_option maxRecDepth 100000 in
theorem mw_1610 : (.fieldLink "BreweryHouseModel$Text" 44 "BreweryHouseModel$Text" "lengths" "[I" : Cond) ∈ lw_gd := tg_7 (i := 170) rfl rfl
set_option maxRecDepth 100000 in
theorem mw_1611 : (.fieldLink "BreweryHouseModel$Text" 47 "BreweryHouseModel$Text" "roles" "[I" : Cond) ∈ lw_gd := tg_7 (i := 171) rfl rfl
set_option maxRecDepth 100000 in
theorem mw_1613 : (.fieldLink "BreweryHouseModel$Text" 50 "BreweryHouseModel$Text" "nameUnits" "[I" : Cond) ∈ lw_gd := tg_7 (i := 173) rfl rfl
set_option maxRecDepth 100000 in
theorem mw_1614 : (.fieldLink "BreweryHouseModel$Text" 53 "BreweryHouseModel$Text" "stepNodes" "[I" : Cond) ∈ lw_gd := tg_7 (i := 174) rfl rfl
set_option maxRecDepth 100000 in
theorem mw_1616 : (.fieldLink "BreweryHouseModel$Text" 293 "BreweryHouseModel$Text" "nodeCount" "I" : Cond) ∈ lw_gd := tg_7 (i := 176) rfl rfl
set_option maxRecDepth 100000 in
theorem mw_1617 : (.fieldLink "BreweryHouseModel$Text" 296 "BreweryHouseModel$Text" "topCount" "I" : Cond) ∈ lw_gd := tg_7 (i := 177) rfl rfl
set_option maxRecDepth 100000 in
theorem mw_1619 : (.fieldLink "BreweryHouseModel$Text" 299 "BreweryHouseModel$Text" "nameCount" "I" : Cond) ∈ lw_gd := tg_7 (i := 179) rfl rfl
set_option maxRecDepth 100000 in
theorem mw_1621 : (.fieldLink "BreweryHouseModel$Text" 302 "BreweryHouseModel$Text" "statements" "I" : Cond) ∈ lw_gd := tg_7 (i := 181) rfl rfl
set_option maxRecDepth 100000 in
theorem mw_1622 : (.fieldLink "BreweryHouseModel$Text" 56 "BreweryHouseModel$Text" "pile" "[I" : Cond) ∈ lw_gd := tg_7 (i := 182) rfl rfl
set_option maxRecDepth 100000 in
theorem mw_1623 : (.fieldLink "BreweryHouseModel$Text" 201 "BreweryHouseModel$Text" "high" "I" : Cond) ∈ lw_gd := tg_7 (i := 183) rfl rfl
set_option maxRecDepth 100000 in
theorem mw_1624 : (.fieldLink "BreweryHouseModel$Text" 59 "BreweryHouseModel$Text" "costs" "[I" : Cond) ∈ lw_gd := tg_7 (i := 184) rfl rfl
set_option maxRecDepth 100000 in
theorem mw_1625 : (.fieldLink "BreweryHouseModel$Text" 62 "BreweryHouseModel$Text" "deeps" "[I" : Cond) ∈ lw_gd := tg_7 (i := 185) rfl rfl
set_option maxRecDepth 100000 in
theorem mw_1626 : (.fieldLink "BreweryHouseModel$Text" 275 "BreweryHouseModel$Text" "made" "I" : Cond) ∈ lw_gd := tg_7 (i := 186) rfl rfl
set_option maxRecDepth 100000 in
theorem mw_1712 : (.fieldLink "BreweryHouseModel$Rows" 11 "BreweryHouseModel$Rows" "text" "[B" : Cond) ∈ lw_gd := tg_8 (i := 32) rfl rfl
set_option maxRecDepth 100000 in
theorem mw_1713 : (.fieldLink "BreweryHouseModel$Rows" 59 "BreweryHouseModel$Rows" "size" "I" : Cond) ∈ lw_gd := tg_8 (i := 33) rfl rfl
set_option maxRecDepth 100000 in
theorem mw_1714 : (.fieldLink "BreweryHouseModel$Rows" 15 "BreweryHouseModel$Rows" "begins" "[I" : Cond) ∈ lw_gd := tg_8 (i := 34) rfl rfl
set_option maxRecDepth 100000 in
theorem mw_1715 : (.fieldLink "BreweryHouseModel$Rows" 19 "BreweryHouseModel$Rows" "ends" "[I" : Cond) ∈ lw_gd := tg_8 (i := 35) rfl rfl
set_option maxRecDepth 100000 in
theorem mw_1716 : (.fieldLink "BreweryHouseModel$Rows" 63 "BreweryHouseModel$Rows" "words" "I" : Cond) ∈ lw_gd := tg_8 (i := 36) rfl rfl
set_option maxRecDepth 100000 in
theorem mw_1717 : (.fieldLink "BreweryHouseModel$Rows" 70 "BreweryHouseModel$Rows" "next" "I" : Cond) ∈ lw_gd := tg_8 (i := 37) rfl rfl
set_option maxRecDepth 100000 in
theorem mw_1718 : (.fieldLink "BreweryHouseModel$Rows" 108 "BreweryHouseModel$Rows" "open" "I" : Cond) ∈ lw_gd := tg_8 (i := 38) rfl rfl
set_option maxRecDepth 100000 in
theorem mw_1719 : (.fieldLink "BreweryHouseModel$Rows" 117 "BreweryHouseModel$Rows" "stood" "I" : Cond) ∈ lw_gd := tg_8 (i := 39) rfl rfl
set_option maxRecDepth 100000 in
theorem mw_1720 : (.fieldLink "BreweryHouseModel$Rows" 22 "BreweryHouseModel$Rows" "whats" "[I" : Cond) ∈ lw_gd := tg_8 (i := 40) rfl rfl
set_option maxRecDepth 100000 in
theorem mw_1721 : (.fieldLink "BreweryHouseModel$Rows" 25 "BreweryHouseModel$Rows" "firsts" "[I" : Cond) ∈ lw_gd := tg_8 (i := 41) rfl rfl
set_option maxRecDepth 100000 in
theorem mw_1722 : (.fieldLink "BreweryHouseModel$Rows" 28 "BreweryHouseModel$Rows" "seconds" "[I" : Cond) ∈ lw_gd := tg_8 (i := 42) rfl rfl
set_option maxRecDepth 100000 in
theorem mw_1723 : (.fieldLink "BreweryHouseModel$Rows" 88 "BreweryHouseModel$Rows" "nodes" "I" : Cond) ∈ lw_gd := tg_8 (i := 43) rfl rfl
set_option maxRecDepth 100000 in
theorem mw_1724 : (.fieldLink "BreweryHouseModel$Rows" 85 "BreweryHouseModel$Rows" "half" "I" : Cond) ∈ lw_gd := tg_8 (i := 44) rfl rfl
set_option maxRecDepth 100000 in
theorem mw_1725 : (.fieldLink "BreweryHouseModel$Rows" 120 "BreweryHouseModel$Rows" "made" "I" : Cond) ∈ lw_gd := tg_8 (i := 45) rfl rfl
set_option maxRecDepth 100000 in
theorem mw_1726 : (.fieldLink "BreweryHouseModel$Rows" 31 "BreweryHouseModel$Rows" "tops" "[I" : Cond) ∈ lw_gd := tg_8 (i := 46) rfl rfl
set_option maxRecDepth 100000 in
theorem mw_1727 : (.fieldLink "BreweryHouseModel$Rows" 34 "BreweryHouseModel$Rows" "actCounts" "[I" : Cond) ∈ lw_gd := tg_8 (i := 47) rfl rfl
set_option maxRecDepth 100000 in
theorem mw_1728 : (.fieldLink "BreweryHouseModel$Rows" 37 "BreweryHouseModel$Rows" "acts" "[I" : Cond) ∈ lw_gd := tg_8 (i := 48) rfl rfl
set_option maxRecDepth 100000 in
theorem mw_1729 : (.fieldLink "BreweryHouseModel$Rows" 40 "BreweryHouseModel$Rows" "numbers" "[I" : Cond) ∈ lw_gd := tg_8 (i := 49) rfl rfl
set_option maxRecDepth 100000 in
theorem mw_1730 : (.fieldLink "BreweryHouseModel$Rows" 43 "BreweryHouseModel$Rows" "latches" "[Z" : Cond) ∈ lw_gd := tg_8 (i := 50) rfl rfl
set_option maxRecDepth 100000 in
theorem mw_1731 : (.fieldLink "BreweryHouseModel$Rows" 47 "BreweryHouseModel$Rows" "conditions" "[I" : Cond) ∈ lw_gd := tg_8 (i := 51) rfl rfl
set_option maxRecDepth 100000 in
theorem mw_1732 : (.fieldLink "BreweryHouseModel$Rows" 133 "BreweryHouseModel$Rows" "rows" "I" : Cond) ∈ lw_gd := tg_8 (i := 52) rfl rfl
set_option maxRecDepth 100000 in
theorem mw_1734 : (.fieldLink "BreweryHouseModel$Rows" 50 "BreweryHouseModel$Rows" "counts" "[I" : Cond) ∈ lw_gd := tg_8 (i := 54) rfl rfl
set_option maxRecDepth 100000 in
theorem mw_1736 : (.fieldLink "BreweryHouseModel$Rows" 53 "BreweryHouseModel$Rows" "latched" "[Z" : Cond) ∈ lw_gd := tg_8 (i := 56) rfl rfl
set_option maxRecDepth 100000 in
theorem mw_1738 : (.fieldLink "BreweryHouseModel$Rows" 56 "BreweryHouseModel$Rows" "passes" "[I" : Cond) ∈ lw_gd := tg_8 (i := 58) rfl rfl
set_option maxRecDepth 100000 in
theorem mw_1740 : (.fieldLink "BreweryHouseModel$Rows" 136 "BreweryHouseModel$Rows" "state" "I" : Cond) ∈ lw_gd := tg_8 (i := 60) rfl rfl
set_option maxRecDepth 100000 in
theorem mw_1794 : (.fieldLink "BreweryHouseModel" 9 "BreweryHouseModel" "tape" "[B" : Cond) ∈ lw_gd := tg_8 (i := 114) rfl rfl
set_option maxRecDepth 100000 in
theorem mw_1795 : (.fieldLink "BreweryHouseModel" 212 "BreweryHouseModel" "taped" "I" : Cond) ∈ lw_gd := tg_8 (i := 115) rfl rfl
set_option maxRecDepth 100000 in
theorem mw_1796 : (.fieldLink "BreweryHouseModel" 16 "BreweryHouseModel" "program" "LBreweryHouseModel$Text;" : Cond) ∈ lw_gd := tg_8 (i := 116) rfl rfl
set_option maxRecDepth 100000 in
theorem mw_1797 : (.fieldLink "BreweryHouseModel" 23 "BreweryHouseModel" "interlocks" "LBreweryHouseModel$Rows;" : Cond) ∈ lw_gd := tg_8 (i := 117) rfl rfl
set_option maxRecDepth 100000 in
theorem mw_1798 : (.fieldLink "BreweryHouseModel" 278 "BreweryHouseModel" "things" "I" : Cond) ∈ lw_gd := tg_8 (i := 118) rfl rfl
set_option maxRecDepth 100000 in
theorem mw_1799 : (.fieldLink "BreweryHouseModel" 27 "BreweryHouseModel" "kinds" "[I" : Cond) ∈ lw_gd := tg_8 (i := 119) rfl rfl
set_option maxRecDepth 100000 in
theorem mw_1800 : (.fieldLink "BreweryHouseModel" 31 "BreweryHouseModel" "rooms" "[I" : Cond) ∈ lw_gd := tg_8 (i := 120) rfl rfl
set_option maxRecDepth 100000 in
theorem mw_1801 : (.fieldLink "BreweryHouseModel" 34 "BreweryHouseModel" "litres" "[I" : Cond) ∈ lw_gd := tg_8 (i := 121) rfl rfl
set_option maxRecDepth 100000 in
theorem mw_1802 : (.fieldLink "BreweryHouseModel" 37 "BreweryHouseModel" "liquids" "[I" : Cond) ∈ lw_gd := tg_8 (i := 122) rfl rfl
set_option maxRecDepth 100000 in
theorem mw_1803 : (.fieldLink "BreweryHouseModel" 40 "BreweryHouseModel" "positions" "[I" : Cond) ∈ lw_gd := tg_8 (i := 123) rfl rfl
set_option maxRecDepth 100000 in
theorem mw_1804 : (.fieldLink "BreweryHouseModel" 43 "BreweryHouseModel" "taken" "[I" : Cond) ∈ lw_gd := tg_8 (i := 124) rfl rfl
set_option maxRecDepth 100000 in
theorem mw_1805 : (.fieldLink "BreweryHouseModel" 281 "BreweryHouseModel" "pipes" "I" : Cond) ∈ lw_gd := tg_8 (i := 125) rfl rfl
set_option maxRecDepth 100000 in
theorem mw_1806 : (.fieldLink "BreweryHouseModel" 46 "BreweryHouseModel" "sizes" "[I" : Cond) ∈ lw_gd := tg_8 (i := 126) rfl rfl
set_option maxRecDepth 100000 in
theorem mw_1807 : (.fieldLink "BreweryHouseModel" 49 "BreweryHouseModel" "at" "[I" : Cond) ∈ lw_gd := tg_8 (i := 127) rfl rfl
set_option maxRecDepth 100000 in
theorem mw_1808 : (.fieldLink "BreweryHouseModel" 52 "BreweryHouseModel" "ports" "[I" : Cond) ∈ lw_gd := tg_8 (i := 128) rfl rfl
set_option maxRecDepth 100000 in
theorem mw_1809 : (.fieldLink "BreweryHouseModel" 55 "BreweryHouseModel" "contents" "[B" : Cond) ∈ lw_gd := tg_8 (i := 129) rfl rfl
set_option maxRecDepth 100000 in
theorem mw_1810 : (.fieldLink "BreweryHouseModel" 58 "BreweryHouseModel" "lasts" "[I" : Cond) ∈ lw_gd := tg_8 (i := 130) rfl rfl
set_option maxRecDepth 100000 in
theorem mw_1811 : (.fieldLink "BreweryHouseModel" 61 "BreweryHouseModel" "cleaned" "[I" : Cond) ∈ lw_gd := tg_8 (i := 131) rfl rfl
set_option maxRecDepth 100000 in
theorem mw_1812 : (.fieldLink "BreweryHouseModel" 64 "BreweryHouseModel" "meet" "[Z" : Cond) ∈ lw_gd := tg_8 (i := 132) rfl rfl
set_option maxRecDepth 100000 in
theorem mw_1813 : (.fieldLink "BreweryHouseModel" 68 "BreweryHouseModel" "needs" "[I" : Cond) ∈ lw_gd := tg_8 (i := 133) rfl rfl
set_option maxRecDepth 100000 in
theorem mw_1814 : (.fieldLink "BreweryHouseModel" 71 "BreweryHouseModel" "lasting" "[I" : Cond) ∈ lw_gd := tg_8 (i := 134) rfl rfl
set_option maxRecDepth 100000 in
theorem mw_1815 : (.fieldLink "BreweryHouseModel" 234 "BreweryHouseModel" "place" "I" : Cond) ∈ lw_gd := tg_8 (i := 135) rfl rfl
set_option maxRecDepth 100000 in
theorem mw_1816 : (.fieldLink "BreweryHouseModel" 215 "BreweryHouseModel" "limit" "I" : Cond) ∈ lw_gd := tg_8 (i := 136) rfl rfl
set_option maxRecDepth 100000 in
theorem mw_1817 : (.fieldLink "BreweryHouseModel" 74 "BreweryHouseModel" "words" "[I" : Cond) ∈ lw_gd := tg_8 (i := 137) rfl rfl
set_option maxRecDepth 100000 in
theorem mw_1818 : (.fieldLink "BreweryHouseModel" 77 "BreweryHouseModel" "newKinds" "[I" : Cond) ∈ lw_gd := tg_8 (i := 138) rfl rfl
set_option maxRecDepth 100000 in
theorem mw_1819 : (.fieldLink "BreweryHouseModel" 80 "BreweryHouseModel" "newTaken" "[I" : Cond) ∈ lw_gd := tg_8 (i := 139) rfl rfl
set_option maxRecDepth 100000 in
theorem mw_1820 : (.fieldLink "BreweryHouseModel" 284 "BreweryHouseModel" "ways" "I" : Cond) ∈ lw_gd := tg_8 (i := 140) rfl rfl
set_option maxRecDepth 100000 in
theorem mw_1821 : (.fieldLink "BreweryHouseModel" 83 "BreweryHouseModel" "froms" "[I" : Cond) ∈ lw_gd := tg_8 (i := 141) rfl rfl
set_option maxRecDepth 100000 in
theorem mw_1822 : (.fieldLink "BreweryHouseModel" 86 "BreweryHouseModel" "tos" "[I" : Cond) ∈ lw_gd := tg_8 (i := 142) rfl rfl
set_option maxRecDepth 100000 in
theorem mw_1823 : (.fieldLink "BreweryHouseModel" 89 "BreweryHouseModel" "carried" "[I" : Cond) ∈ lw_gd := tg_8 (i := 143) rfl rfl
set_option maxRecDepth 100000 in
theorem mw_1824 : (.fieldLink "BreweryHouseModel" 92 "BreweryHouseModel" "rates" "[I" : Cond) ∈ lw_gd := tg_8 (i := 144) rfl rfl
set_option maxRecDepth 100000 in
theorem mw_1825 : (.fieldLink "BreweryHouseModel" 95 "BreweryHouseModel" "lengths" "[I" : Cond) ∈ lw_gd := tg_8 (i := 145) rfl rfl
set_option maxRecDepth 100000 in
theorem mw_1826 : (.fieldLink "BreweryHouseModel" 98 "BreweryHouseModel" "entries" "[I" : Cond) ∈ lw_gd := tg_8 (i := 146) rfl rfl
set_option maxRecDepth 100000 in
theorem mw_1827 : (.fieldLink "BreweryHouseModel" 101 "BreweryHouseModel" "heldAt" "[I" : Cond) ∈ lw_gd := tg_8 (i := 147) rfl rfl
set_option maxRecDepth 100000 in
theorem mw_1828 : (.fieldLink "BreweryHouseModel" 104 "BreweryHouseModel" "leftLitres" "[I" : Cond) ∈ lw_gd := tg_8 (i := 148) rfl rfl
set_option maxRecDepth 100000 in
theorem mw_1829 : (.fieldLink "BreweryHouseModel" 107 "BreweryHouseModel" "leftPipes" "[I" : Cond) ∈ lw_gd := tg_8 (i := 149) rfl rfl
set_option maxRecDepth 100000 in
theorem mw_1830 : (.fieldLink "BreweryHouseModel" 110 "BreweryHouseModel" "before" "[I" : Cond) ∈ lw_gd := tg_8 (i := 150) rfl rfl
set_option maxRecDepth 100000 in
theorem mw_1831 : (.fieldLink "BreweryHouseModel" 113 "BreweryHouseModel" "best" "[I" : Cond) ∈ lw_gd := tg_8 (i := 151) rfl rfl
set_option maxRecDepth 100000 in
theorem mw_1832 : (.fieldLink "BreweryHouseModel" 116 "BreweryHouseModel" "bestWanted" "[I" : Cond) ∈ lw_gd := tg_8 (i := 152) rfl rfl
set_option maxRecDepth 100000 in
theorem mw_1833 : (.fieldLink "BreweryHouseModel" 391 "BreweryHouseModel" "bestCount" "I" : Cond) ∈ lw_gd := tg_8 (i := 153) rfl rfl
set_option maxRecDepth 100000 in
theorem mw_1834 : (.fieldLink "BreweryHouseModel" 373 "BreweryHouseModel" "busy" "J" : Cond) ∈ lw_gd := tg_8 (i := 154) rfl rfl
set_option maxRecDepth 100000 in
theorem mw_1835 : (.fieldLink "BreweryHouseModel" 119 "BreweryHouseModel" "line" "[B" : Cond) ∈ lw_gd := tg_8 (i := 155) rfl rfl
set_option maxRecDepth 100000 in
theorem mw_1836 : (.fieldLink "BreweryHouseModel" 122 "BreweryHouseModel" "inside" "[I" : Cond) ∈ lw_gd := tg_8 (i := 156) rfl rfl
set_option maxRecDepth 100000 in
theorem mw_1837 : (.fieldLink "BreweryHouseModel" 125 "BreweryHouseModel" "next" "[J" : Cond) ∈ lw_gd := tg_8 (i := 157) rfl rfl
set_option maxRecDepth 100000 in
theorem mw_1838 : (.fieldLink "BreweryHouseModel" 129 "BreweryHouseModel" "floods" "[J" : Cond) ∈ lw_gd := tg_8 (i := 158) rfl rfl
set_option maxRecDepth 100000 in
theorem mw_1839 : (.fieldLink "BreweryHouseModel" 347 "BreweryHouseModel" "dangerFailure" "I" : Cond) ∈ lw_gd := tg_8 (i := 159) rfl rfl
set_option maxRecDepth 100000 in
theorem mw_1840 : (.fieldLink "BreweryHouseModel" 350 "BreweryHouseModel" "dangerSpace" "I" : Cond) ∈ lw_gd := tg_8 (i := 160) rfl rfl
set_option maxRecDepth 100000 in
theorem mw_1841 : (.fieldLink "BreweryHouseModel" 353 "BreweryHouseModel" "dangerFirst" "I" : Cond) ∈ lw_gd := tg_8 (i := 161) rfl rfl
set_option maxRecDepth 100000 in
theorem mw_1842 : (.fieldLink "BreweryHouseModel" 356 "BreweryHouseModel" "dangerSecond" "I" : Cond) ∈ lw_gd := tg_8 (i := 162) rfl rfl
set_option maxRecDepth 100000 in
theorem mw_1843 : (.fieldLink "BreweryHouseModel" 132 "BreweryHouseModel" "does" "[I" : Cond) ∈ lw_gd := tg_8 (i := 163) rfl rfl
set_option maxRecDepth 100000 in
theorem mw_1844 : (.fieldLink "BreweryHouseModel" 135 "BreweryHouseModel" "xs" "[I" : Cond) ∈ lw_gd := tg_8 (i := 164) rfl rfl
set_option maxRecDepth 100000 in
theorem mw_1845 : (.fieldLink "BreweryHouseModel" 138 "BreweryHouseModel" "ys" "[I" : Cond) ∈ lw_gd := tg_8 (i := 165) rfl rfl
set_option maxRecDepth 100000 in
theorem mw_1846 : (.fieldLink "BreweryHouseModel" 141 "BreweryHouseModel" "zs" "[I" : Cond) ∈ lw_gd := tg_8 (i := 166) rfl rfl
set_option maxRecDepth 100000 in
theorem mw_1847 : (.fieldLink "BreweryHouseModel" 144 "BreweryHouseModel" "senseWhat" "[I" : Cond) ∈ lw_gd := tg_8 (i := 167) rfl rfl
set_option maxRecDepth 100000 in
theorem mw_1848 : (.fieldLink "BreweryHouseModel" 147 "BreweryHouseModel" "senseOf" "[I" : Cond) ∈ lw_gd := tg_8 (i := 168) rfl rfl
set_option maxRecDepth 100000 in
theorem mw_1849 : (.fieldLink "BreweryHouseModel" 150 "BreweryHouseModel" "watchWhat" "[I" : Cond) ∈ lw_gd := tg_8 (i := 169) rfl rfl
set_option maxRecDepth 100000 in
theorem mw_1850 : (.fieldLink "BreweryHouseModel" 153 "BreweryHouseModel" "watchOf" "[I" : Cond) ∈ lw_gd := tg_8 (i := 170) rfl rfl
set_option maxRecDepth 100000 in
theorem mw_1851 : (.fieldLink "BreweryHouseModel" 156 "BreweryHouseModel" "watchLeast" "[J" : Cond) ∈ lw_gd := tg_8 (i := 171) rfl rfl
set_option maxRecDepth 100000 in
theorem mw_1852 : (.fieldLink "BreweryHouseModel" 159 "BreweryHouseModel" "values" "[J" : Cond) ∈ lw_gd := tg_8 (i := 172) rfl rfl
set_option maxRecDepth 100000 in
theorem mw_1853 : (.fieldLink "BreweryHouseModel" 162 "BreweryHouseModel" "state" "I" : Cond) ∈ lw_gd := tg_8 (i := 173) rfl rfl
set_option maxRecDepth 100000 in
theorem mw_1854 : (.fieldLink "BreweryHouseModel" 493 "BreweryHouseModel" "places" "I" : Cond) ∈ lw_gd := tg_8 (i := 174) rfl rfl
set_option maxRecDepth 100000 in
theorem mw_1855 : (.fieldLink "BreweryHouseModel" 166 "BreweryHouseModel" "of" "[I" : Cond) ∈ lw_gd := tg_8 (i := 175) rfl rfl
set_option maxRecDepth 100000 in
theorem mw_1856 : (.fieldLink "BreweryHouseModel" 169 "BreweryHouseModel" "firstKid" "[I" : Cond) ∈ lw_gd := tg_8 (i := 176) rfl rfl
set_option maxRecDepth 100000 in
theorem mw_1857 : (.fieldLink "BreweryHouseModel" 172 "BreweryHouseModel" "nextKid" "[I" : Cond) ∈ lw_gd := tg_8 (i := 177) rfl rfl
set_option maxRecDepth 100000 in
theorem mw_1858 : (.fieldLink "BreweryHouseModel" 175 "BreweryHouseModel" "begun" "[Z" : Cond) ∈ lw_gd := tg_8 (i := 178) rfl rfl
set_option maxRecDepth 100000 in
theorem mw_1859 : (.fieldLink "BreweryHouseModel" 178 "BreweryHouseModel" "done" "[Z" : Cond) ∈ lw_gd := tg_8 (i := 179) rfl rfl
set_option maxRecDepth 100000 in
theorem mw_1860 : (.fieldLink "BreweryHouseModel" 181 "BreweryHouseModel" "over" "[Z" : Cond) ∈ lw_gd := tg_8 (i := 180) rfl rfl
set_option maxRecDepth 100000 in
theorem mw_1861 : (.fieldLink "BreweryHouseModel" 184 "BreweryHouseModel" "current" "[I" : Cond) ∈ lw_gd := tg_8 (i := 181) rfl rfl
set_option maxRecDepth 100000 in
theorem mw_1862 : (.fieldLink "BreweryHouseModel" 187 "BreweryHouseModel" "since" "[I" : Cond) ∈ lw_gd := tg_8 (i := 182) rfl rfl
set_option maxRecDepth 100000 in
theorem mw_1863 : (.fieldLink "BreweryHouseModel" 190 "BreweryHouseModel" "many" "[J" : Cond) ∈ lw_gd := tg_8 (i := 183) rfl rfl
set_option maxRecDepth 100000 in
theorem mw_1864 : (.fieldLink "BreweryHouseModel" 193 "BreweryHouseModel" "goals" "[J" : Cond) ∈ lw_gd := tg_8 (i := 184) rfl rfl
set_option maxRecDepth 100000 in
theorem mw_1865 : (.fieldLink "BreweryHouseModel" 196 "BreweryHouseModel" "starts" "[J" : Cond) ∈ lw_gd := tg_8 (i := 185) rfl rfl
set_option maxRecDepth 100000 in
theorem mw_1866 : (.fieldLink "BreweryHouseModel" 529 "BreweryHouseModel" "begins" "I" : Cond) ∈ lw_gd := tg_8 (i := 186) rfl rfl
set_option maxRecDepth 100000 in
theorem mw_1867 : (.fieldLink "BreweryHouseModel" 532 "BreweryHouseModel" "actsBegun" "I" : Cond) ∈ lw_gd := tg_8 (i := 187) rfl rfl
set_option maxRecDepth 100000 in
theorem mw_1868 : (.fieldLink "BreweryHouseModel" 520 "BreweryHouseModel" "walked" "I" : Cond) ∈ lw_gd := tg_8 (i := 188) rfl rfl
set_option maxRecDepth 100000 in
theorem mw_1869 : (.fieldLink "BreweryHouseModel" 538 "BreweryHouseModel" "asksHold" "Z" : Cond) ∈ lw_gd := tg_8 (i := 189) rfl rfl
set_option maxRecDepth 100000 in
theorem mw_1870 : (.fieldLink "BreweryHouseModel" 199 "BreweryHouseModel" "bad" "I" : Cond) ∈ lw_gd := tg_8 (i := 190) rfl rfl
set_option maxRecDepth 100000 in
theorem mw_1871 : (.fieldLink "BreweryHouseModel" 576 "BreweryHouseModel" "left" "I" : Cond) ∈ lw_gd := tg_8 (i := 191) rfl rfl
set_option maxRecDepth 100000 in
theorem mw_1872 : (.fieldLink "BreweryHouseModel" 326 "BreweryHouseModel" "now" "I" : Cond) ∈ lw_gd := tg_8 (i := 192) rfl rfl
set_option maxRecDepth 100000 in
theorem mw_1873 : (.fieldLink "BreweryHouseModel" 433 "BreweryHouseModel" "alarms" "I" : Cond) ∈ lw_gd := tg_8 (i := 193) rfl rfl
set_option maxRecDepth 100000 in
theorem mw_1874 : (.fieldLink "BreweryHouseModel" 202 "BreweryHouseModel" "alarmSeconds" "[I" : Cond) ∈ lw_gd := tg_8 (i := 194) rfl rfl
set_option maxRecDepth 100000 in
theorem mw_1875 : (.fieldLink "BreweryHouseModel" 205 "BreweryHouseModel" "alarmNodes" "[I" : Cond) ∈ lw_gd := tg_8 (i := 195) rfl rfl
set_option maxRecDepth 100000 in
theorem mw_1876 : (.fieldLink "BreweryHouseModel" 208 "BreweryHouseModel" "alarmKinds" "[I" : Cond) ∈ lw_gd := tg_8 (i := 196) rfl rfl
set_option maxRecDepth 100000 in
theorem mw_1877 : (.fieldLink "BreweryHouseModel" 294 "BreweryHouseModel" "wish" "I" : Cond) ∈ lw_gd := tg_8 (i := 197) rfl rfl
set_option maxRecDepth 100000 in
theorem mw_1878 : (.fieldLink "BreweryHouseModel" 297 "BreweryHouseModel" "found" "I" : Cond) ∈ lw_gd := tg_8 (i := 198) rfl rfl
set_option maxRecDepth 100000 in
theorem mw_1879 : (.fieldLink "BreweryHouseModel" 261 "BreweryHouseModel" "newThings" "I" : Cond) ∈ lw_gd := tg_8 (i := 199) rfl rfl
set_option maxRecDepth 100000 in
theorem mw_1880 : (.fieldLink "BreweryHouseModel" 265 "BreweryHouseModel" "newPipes" "I" : Cond) ∈ lw_gd := tg_8 (i := 200) rfl rfl
set_option maxRecDepth 100000 in
theorem mw_2064 : (.methodLink "BreweryHouseModel" 218 y_Mo_readPlant : Cond) ∈ lw_gd := tg_9 (i := 144) rfl rfl
set_option maxRecDepth 100000 in
theorem mw_2066 : (.instanceMethod y_Mo_readPlant : Cond) ∈ lw_gd := tg_9 (i := 146) rfl rfl
set_option maxRecDepth 100000 in
theorem mw_2067 : (.code y_Mo_readPlant b_Mo_readPlant 2 (some .int) : Cond) ∈ lw_gd := tg_9 (i := 147) rfl rfl
set_option maxRecDepth 100000 in
theorem mw_2068 : (.methodLink "BreweryHouseModel" 272 y_Mo_planLine : Cond) ∈ lw_gd := tg_9 (i := 148) rfl rfl
set_option maxRecDepth 100000 in
theorem mw_2070 : (.instanceMethod y_Mo_planLine : Cond) ∈ lw_gd := tg_9 (i := 150) rfl rfl
set_option maxRecDepth 100000 in
theorem mw_2071 : (.code y_Mo_planLine b_Mo_planLine 4 (some .int) : Cond) ∈ lw_gd := tg_9 (i := 151) rfl rfl
set_option maxRecDepth 100000 in
theorem mw_2072 : (.methodLink "BreweryHouseModel" 237 y_Mo_here : Cond) ∈ lw_gd := tg_9 (i := 152) rfl rfl
set_option maxRecDepth 100000 in
theorem mw_2074 : (.instanceMethod y_Mo_here : Cond) ∈ lw_gd := tg_9 (i := 154) rfl rfl
set_option maxRecDepth 100000 in
theorem mw_2075 : (.code y_Mo_here b_Mo_here 1 (some .int) : Cond) ∈ lw_gd := tg_9 (i := 155) rfl rfl
set_option maxRecDepth 100000 in
theorem mw_2076 : (.constantLong "BreweryHouseModel" 247 1802396020 : Cond) ∈ lw_gd := tg_9 (i := 156) rfl rfl
set_option maxRecDepth 100000 in
theorem mw_2077 : (.methodLink "BreweryHouseModel" 244 y_Mo_over : Cond) ∈ lw_gd := tg_9 (i := 157) rfl rfl
set_option maxRecDepth 100000 in
theorem mw_2079 : (.instanceMethod y_Mo_over : Cond) ∈ lw_gd := tg_9 (i := 159) rfl rfl
set_option maxRecDepth 100000 in
theorem mw_2080 : (.code y_Mo_over b_Mo_over 5 (some .boolean) : Cond) ∈ lw_gd := tg_9 (i := 160) rfl rfl
set_option maxRecDepth 100000 in
theorem mw_2081 : (.constantLong "BreweryHouseModel" 240 255 : Cond) ∈ lw_gd := tg_9 (i := 161) rfl rfl
set_option maxRecDepth 100000 in
theorem mw_2082 : (.constantLong "BreweryHouseModel" 249 435778511222 : Cond) ∈ lw_gd := tg_9 (i := 162) rfl rfl
set_option maxRecDepth 100000 in
theorem mw_2083 : (.constantLong "BreweryHouseModel" 251 112 : Cond) ∈ lw_gd := tg_9 (i := 163) rfl rfl
set_option maxRecDepth 100000 in
theorem mw_2084 : (.constantLong "BreweryHouseModel" 253 7368053 : Cond) ∈ lw_gd := tg_9 (i := 164) rfl rfl
set_option maxRecDepth 100000 in
theorem mw_2085 : (.constantLong "BreweryHouseModel" 255 6647913 : Cond) ∈ lw_gd := tg_9 (i := 165) rfl rfl
set_option maxRecDepth 100000 in
theorem mw_2086 : (.methodLink "BreweryHouseModel" 257 y_Mo_number : Cond) ∈ lw_gd := tg_9 (i := 166) rfl rfl
set_option maxRecDepth 100000 in
theorem mw_2088 : (.instanceMethod y_Mo_number : Cond) ∈ lw_gd := tg_9 (i := 168) rfl rfl
set_option maxRecDepth 100000 in
theorem mw_2089 : (.code y_Mo_number b_Mo_number 4 (some .int) : Cond) ∈ lw_gd := tg_9 (i := 169) rfl rfl
set_option maxRecDepth 100000 in
theorem mw_2090 : (.constantLong "BreweryHouseModel" 242 32 : Cond) ∈ lw_gd := tg_9 (i := 170) rfl rfl
set_option maxRecDepth 100000 in
theorem mw_2091 : (.methodLink "BreweryHouseModel" 275 y_Mo_isNew : Cond) ∈ lw_gd := tg_9 (i := 171) rfl rfl
set_option maxRecDepth 100000 in
theorem mw_2093 : (.instanceMethod y_Mo_isNew : Cond) ∈ lw_gd := tg_9 (i := 173) rfl rfl
set_option maxRecDepth 100000 in
theorem mw_2094 : (.code y_Mo_isNew b_Mo_isNew 5 (some .boolean) : Cond) ∈ lw_gd := tg_9 (i := 174) rfl rfl
set_option maxRecDepth 100000 in
theorem mw_2095 : (.constant "BreweryHouseModel" 264 100000 : Cond) ∈ lw_gd := tg_9 (i := 175) rfl rfl
set_option maxRecDepth 100000 in
theorem mw_2096 : (.methodLink "BreweryHouseModel" 268 y_Mo_room : Cond) ∈ lw_gd := tg_9 (i := 176) rfl rfl
set_option maxRecDepth 100000 in
theorem mw_2097 : (.static y_Mo_room : Cond) ∈ lw_gd := tg_9 (i := 177) rfl rfl
set_option maxRecDepth 100000 in
theorem mw_2098 : (.code y_Mo_room b_Mo_room 1 (some .int) : Cond) ∈ lw_gd := tg_9 (i := 178) rfl rfl
set_option maxRecDepth 100000 in
theorem mw_2099 : (.methodLink "BreweryHouseModel" 287 y_Mo_build : Cond) ∈ lw_gd := tg_9 (i := 179) rfl rfl
set_option maxRecDepth 100000 in
theorem mw_2101 : (.instanceMethod y_Mo_build : Cond) ∈ lw_gd := tg_9 (i := 181) rfl rfl
set_option maxRecDepth 100000 in
theorem mw_2102 : (.code y_Mo_build b_Mo_build 4 none : Cond) ∈ lw_gd := tg_9 (i := 182) rfl rfl
set_option maxRecDepth 100000 in
theorem mw_2103 : (.methodLink "BreweryHouseModel" 291 y_Mo_forget : Cond) ∈ lw_gd := tg_9 (i := 183) rfl rfl
set_option maxRecDepth 100000 in
theorem mw_2105 : (.instanceMethod y_Mo_forget : Cond) ∈ lw_gd := tg_9 (i := 185) rfl rfl
set_option maxRecDepth 100000 in
theorem mw_2106 : (.code y_Mo_forget b_Mo_forget 3 none : Cond) ∈ lw_gd := tg_9 (i := 186) rfl rfl
set_option maxRecDepth 100000 in
theorem mw_2107 : (.methodLink "BreweryHouseModel" 222 y_Mr_unit : Cond) ∈ lw_gd := tg_9 (i := 187) rfl rfl
set_option maxRecDepth 100000 in
theorem mw_2108 : (.instanceMethod y_Mr_unit : Cond) ∈ lw_gd := tg_9 (i := 188) rfl rfl
set_option maxRecDepth 100000 in
theorem mw_2109 : (.selects "BreweryHouseModel$Rows" y_Mr_unit y_Mr_unit : Cond) ∈ lw_gd := tg_9 (i := 189) rfl rfl
set_option maxRecDepth 100000 in
theorem mw_2110 : (.code y_Mr_unit b_Mr_unit 2 (some .boolean) : Cond) ∈ lw_gd := tg_9 (i := 190) rfl rfl
set_option maxRecDepth 100000 in
theorem mw_2111 : (.methodLink "BreweryHouseModel" 226 y_Tx_unit : Cond) ∈ lw_gd := tg_9 (i := 191) rfl rfl
set_option maxRecDepth 100000 in
theorem mw_2112 : (.instanceMethod y_Tx_unit : Cond) ∈ lw_gd := tg_9 (i := 192) rfl rfl
set_option maxRecDepth 100000 in
theorem mw_2113 : (.selects "BreweryHouseModel$Text" y_Tx_unit y_Tx_unit : Cond) ∈ lw_gd := tg_9 (i := 193) rfl rfl
set_option maxRecDepth 100000 in
theorem mw_2114 : (.code y_Tx_unit b_Tx_unit 2 (some .boolean) : Cond) ∈ lw_gd := tg_9 (i := 194) rfl rfl
set_option maxRecDepth 100000 in
theorem mw_2115 : (.methodLink "BreweryHouseModel" 227 y_Mr_read : Cond) ∈ lw_gd := tg_9 (i := 195) rfl rfl
set_option maxRecDepth 100000 in
theorem mw_2116 : (.instanceMethod y_Mr_read : Cond) ∈ lw_gd := tg_9 (i := 196) rfl rfl
set_option maxRecDepth 100000 in
theorem mw_2117 : (.selects "BreweryHouseModel$Rows" y_Mr_read y_Mr_read : Cond) ∈ lw_gd := tg_9 (i := 197) rfl rfl
set_option maxRecDepth 100000 in
theorem mw_2118 : (.code y_Mr_read b_Mr_read 3 (some .int) : Cond) ∈ lw_gd := tg_9 (i := 198) rfl rfl
set_option maxRecDepth 100000 in
theorem mw_2119 : (.methodLink "BreweryHouseModel$Rows" 126 y_Mr_cut : Cond) ∈ lw_gd := tg_9 (i := 199) rfl rfl
set_option maxRecDepth 100000 in
theorem mw_2121 : (.instanceMethod y_Mr_cut : Cond) ∈ lw_gd := tg_9 (i := 201) rfl rfl
set_option maxRecDepth 100000 in
theorem mw_2122 : (.code y_Mr_cut b_Mr_cut 3 none : Cond) ∈ lw_gd := tg_9 (i := 202) rfl rfl
set_option maxRecDepth 100000 in
theorem mw_2123 : (.methodLink "BreweryHouseModel$Rows" 66 y_Mr_isSign : Cond) ∈ lw_gd := tg_9 (i := 203) rfl rfl
set_option maxRecDepth 100000 in
theorem mw_2124 : (.static y_Mr_isSign : Cond) ∈ lw_gd := tg_9 (i := 204) rfl rfl
set_option maxRecDepth 100000 in
theorem mw_2125 : (.code y_Mr_isSign b_Mr_isSign 1 (some .boolean) : Cond) ∈ lw_gd := tg_9 (i := 205) rfl rfl
set_option maxRecDepth 100000 in
theorem mw_2126 : (.methodLink "BreweryHouseModel$Rows" 94 y_Mr_is : Cond) ∈ lw_gd := tg_9 (i := 206) rfl rfl
set_option maxRecDepth 100000 in
theorem mw_2128 : (.instanceMethod y_Mr_is : Cond) ∈ lw_gd := tg_9 (i := 208) rfl rfl
set_option maxRecDepth 100000 in
theorem mw_2129 : (.code y_Mr_is b_Mr_is 9 (some .boolean) : Cond) ∈ lw_gd := tg_9 (i := 209) rfl rfl
set_option maxRecDepth 100000 in
theorem mw_2130 : (.methodLink "BreweryHouseModel$Rows" 73 y_Mr_wide : Cond) ∈ lw_gd := tg_9 (i := 210) rfl rfl
set_option maxRecDepth 100000 in
theorem mw_2132 : (.instanceMethod y_Mr_wide : Cond) ∈ lw_gd := tg_9 (i := 212) rfl rfl
set_option maxRecDepth 100000 in
theorem mw_2133 : (.code y_Mr_wide b_Mr_wide 1 (some .int) : Cond) ∈ lw_gd := tg_9 (i := 213) rfl rfl
set_option maxRecDepth 100000 in
theorem mw_2134 : (.methodLink "BreweryHouseModel$Rows" 77 y_Mr_at : Cond) ∈ lw_gd := tg_9 (i := 214) rfl rfl
set_option maxRecDepth 100000 in
theorem mw_2136 : (.instanceMethod y_Mr_at : Cond) ∈ lw_gd := tg_9 (i := 216) rfl rfl
set_option maxRecDepth 100000 in
theorem mw_2137 : (.code y_Mr_at b_Mr_at 3 (some .int) : Cond) ∈ lw_gd := tg_9 (i := 217) rfl rfl
set_option maxRecDepth 100000 in
theorem mw_2138 : (.methodLink "BreweryHouseModel$Rows" 129 y_Mr_readRow : Cond) ∈ lw_gd := tg_9 (i := 218) rfl rfl
set_option maxRecDepth 100000 in
theorem mw_2140 : (.instanceMethod y_Mr_readRow : Cond) ∈ lw_gd := tg_9 (i := 220) rfl rfl
set_option maxRecDepth 100000 in
theorem mw_2141 : (.code y_Mr_readRow b_Mr_readRow 6 (some .boolean) : Cond) ∈ lw_gd := tg_9 (i := 221) rfl rfl
set_option maxRecDepth 100000 in
theorem mw_2142 : (.methodLink "BreweryHouseModel$Rows" 123 y_Mr_act0 : Cond) ∈ lw_gd := tg_9 (i := 222) rfl rfl
set_option maxRecDepth 100000 in
theorem mw_2144 : (.instanceMethod y_Mr_act0 : Cond) ∈ lw_gd := tg_9 (i := 224) rfl rfl
set_option maxRecDepth 100000 in
theorem mw_2145 : (.code y_Mr_act0 b_Mr_act0 1 (some .int) : Cond) ∈ lw_gd := tg_9 (i := 225) rfl rfl
set_option maxRecDepth 100000 in
theorem mw_2146 : (.methodLink "BreweryHouseModel$Rows" 81 y_Mr_number : Cond) ∈ lw_gd := tg_9 (i := 226) rfl rfl
set_option maxRecDepth 100000 in
theorem mw_2148 : (.instanceMethod y_Mr_number : Cond) ∈ lw_gd := tg_9 (i := 228) rfl rfl
set_option maxRecDepth 100000 in
theorem mw_2149 : (.code y_Mr_number b_Mr_number 7 (some .int) : Cond) ∈ lw_gd := tg_9 (i := 229) rfl rfl
set_option maxRecDepth 100000 in
theorem mw_2150 : (.methodLink "BreweryHouseModel$Rows" 111 y_Mr_or : Cond) ∈ lw_gd := tg_9 (i := 230) rfl rfl
set_option maxRecDepth 100000 in
theorem mw_2152 : (.instanceMethod y_Mr_or : Cond) ∈ lw_gd := tg_9 (i := 232) rfl rfl
set_option maxRecDepth 100000 in
theorem mw_2153 : (.code y_Mr_or b_Mr_or 3 (some .int) : Cond) ∈ lw_gd := tg_9 (i := 233) rfl rfl
set_option maxRecDepth 100000 in
theorem mw_2154 : (.methodLink "BreweryHouseModel$Rows" 91 y_Mr_and : Cond) ∈ lw_gd := tg_9 (i := 234) rfl rfl
set_option maxRecDepth 100000 in
theorem mw_2156 : (.instanceMethod y_Mr_and : Cond) ∈ lw_gd := tg_9 (i := 236) rfl rfl
set_option maxRecDepth 100000 in
theorem mw_2157 : (.code y_Mr_and b_Mr_and 3 (some .int) : Cond) ∈ lw_gd := tg_9 (i := 237) rfl rfl
set_option maxRecDepth 100000 in
theorem mw_2158 : (.methodLink "BreweryHouseModel$Rows" 102 y_Mr_part : Cond) ∈ lw_gd := tg_9 (i := 238) rfl rfl
set_option maxRecDepth 100000 in
theorem mw_2160 : (.instanceMethod y_Mr_part : Cond) ∈ lw_gd := tg_10 (i := 0) rfl rfl
set_option maxRecDepth 100000 in
theorem mw_2161 : (.code y_Mr_part b_Mr_part 3 (some .int) : Cond) ∈ lw_gd := tg_10 (i := 1) rfl rfl
set_option maxRecDepth 100000 in
theorem mw_2162 : (.methodLink "BreweryHouseModel$Rows" 105 y_Mr_isOne : Cond) ∈ lw_gd := tg_10 (i := 2) rfl rfl
set_option maxRecDepth 100000 in
theorem mw_2164 : (.instanceMethod y_Mr_isOne : Cond) ∈ lw_gd := tg_10 (i := 4) rfl rfl
set_option maxRecDepth 100000 in
theorem mw_2165 : (.code y_Mr_isOne b_Mr_isOne 2 (some .boolean) : Cond) ∈ lw_gd := tg_10 (i := 5) rfl rfl
set_option maxRecDepth 100000 in
theorem mw_2166 : (.methodLink "BreweryHouseModel$Rows" 98 y_Mr_node : Cond) ∈ lw_gd := tg_10 (i := 6) rfl rfl
set_option maxRecDepth 100000 in
theorem mw_2168 : (.instanceMethod y_Mr_node : Cond) ∈ lw_gd := tg_10 (i := 8) rfl rfl
set_option maxRecDepth 100000 in
theorem mw_2169 : (.code y_Mr_node b_Mr_node 5 (some .int) : Cond) ∈ lw_gd := tg_10 (i := 9) rfl rfl
set_option maxRecDepth 100000 in
theorem mw_2170 : (.methodLink "BreweryHouseModel$Rows" 114 y_Mr_conditionWord : Cond) ∈ lw_gd := tg_10 (i := 10) rfl rfl
set_option maxRecDepth 100000 in
theorem mw_2172 : (.instanceMethod y_Mr_conditionWord : Cond) ∈ lw_gd := tg_10 (i := 12) rfl rfl
set_option maxRecDepth 100000 in
theorem mw_2173 : (.code y_Mr_conditionWord b_Mr_conditionWord 1 (some .int) : Cond) ∈ lw_gd := tg_10 (i := 13) rfl rfl
set_option maxRecDepth 100000 in
theorem mw_2174 : (.methodLink "BreweryHouseModel" 230 y_Tx_read : Cond) ∈ lw_gd := tg_10 (i := 14) rfl rfl
set_option maxRecDepth 100000 in
theorem mw_2175 : (.instanceMethod y_Tx_read : Cond) ∈ lw_gd := tg_10 (i := 15) rfl rfl
set_option maxRecDepth 100000 in
theorem mw_2176 : (.selects "BreweryHouseModel$Text" y_Tx_read y_Tx_read : Cond) ∈ lw_gd := tg_10 (i := 16) rfl rfl
set_option maxRecDepth 100000 in
theorem mw_2177 : (.code y_Tx_read b_Tx_read 2 (some .int) : Cond) ∈ lw_gd := tg_10 (i := 17) rfl rfl
set_option maxRecDepth 100000 in
theorem mw_2178 : (.methodLink "BreweryHouseModel$Text" 287 y_Tx_program : Cond) ∈ lw_gd := tg_10 (i := 18) rfl rfl
set_option maxRecDepth 100000 in
theorem mw_2180 : (.instanceMethod y_Tx_program : Cond) ∈ lw_gd := tg_10 (i := 20) rfl rfl
set_option maxRecDepth 100000 in
theorem mw_2181 : (.code y_Tx_program b_Tx_program 3 (some .boolean) : Cond) ∈ lw_gd := tg_10 (i := 21) rfl rfl
set_option maxRecDepth 100000 in
theorem mw_2182 : (.methodLink "BreweryHouseModel$Text" 182 y_Tx_go : Cond) ∈ lw_gd := tg_10 (i := 22) rfl rfl
set_option maxRecDepth 100000 in
theorem mw_2184 : (.instanceMethod y_Tx_go : Cond) ∈ lw_gd := tg_10 (i := 24) rfl rfl
set_option maxRecDepth 100000 in
theorem mw_2185 : (.code y_Tx_go b_Tx_go 3 (some .boolean) : Cond) ∈ lw_gd := tg_10 (i := 25) rfl rfl
set_option maxRecDepth 100000 in
theorem mw_2186 : (.methodLink "BreweryHouseModel$Text" 136 y_Tx_at : Cond) ∈ lw_gd := tg_10 (i := 26) rfl rfl
set_option maxRecDepth 100000 in
theorem mw_2188 : (.instanceMethod y_Tx_at : Cond) ∈ lw_gd := tg_10 (i := 28) rfl rfl
set_option maxRecDepth 100000 in
theorem mw_2189 : (.code y_Tx_at b_Tx_at 2 (some .int) : Cond) ∈ lw_gd := tg_10 (i := 29) rfl rfl
set_option maxRecDepth 100000 in
theorem mw_2190 : (.methodLink "BreweryHouseModel$Text" 149 y_Tx_isLetter : Cond) ∈ lw_gd := tg_10 (i := 30) rfl rfl
set_option maxRecDepth 100000 in
theorem mw_2191 : (.static y_Tx_isLetter : Cond) ∈ lw_gd := tg_10 (i := 31) rfl rfl
set_option maxRecDepth 100000 in
theorem mw_2192 : (.code y_Tx_isLetter b_Tx_isLetter 1 (some .boolean) : Cond) ∈ lw_gd := tg_10 (i := 32) rfl rfl
set_option maxRecDepth 100000 in
theorem mw_2193 : (.methodLink "BreweryHouseModel$Text" 153 y_Tx_isDigit : Cond) ∈ lw_gd := tg_10 (i := 33) rfl rfl
set_option maxRecDepth 100000 in
theorem mw_2194 : (.static y_Tx_isDigit : Cond) ∈ lw_gd := tg_10 (i := 34) rfl rfl
set_option maxRecDepth 100000 in
theorem mw_2195 : (.code y_Tx_isDigit b_Tx_isDigit 1 (some .boolean) : Cond) ∈ lw_gd := tg_10 (i := 35) rfl rfl
set_option maxRecDepth 100000 in
theorem mw_2196 : (.methodLink "BreweryHouseModel$Text" 156 y_Tx_digits : Cond) ∈ lw_gd := tg_10 (i := 36) rfl rfl
set_option maxRecDepth 100000 in
theorem mw_2198 : (.instanceMethod y_Tx_digits : Cond) ∈ lw_gd := tg_10 (i := 38) rfl rfl
set_option maxRecDepth 100000 in
theorem mw_2199 : (.code y_Tx_digits b_Tx_digits 3 none : Cond) ∈ lw_gd := tg_10 (i := 39) rfl rfl
set_option maxRecDepth 100000 in
theorem mw_2200 : (.constantLong "BreweryHouseModel$Text" 170 10 : Cond) ∈ lw_gd := tg_10 (i := 40) rfl rfl
set_option maxRecDepth 100000 in
theorem mw_2201 : (.constantLong "BreweryHouseModel$Text" 172 48 : Cond) ∈ lw_gd := tg_10 (i := 41) rfl rfl
set_option maxRecDepth 100000 in
theorem mw_2202 : (.constantLong "BreweryHouseModel$Text" 174 1000 : Cond) ∈ lw_gd := tg_10 (i := 42) rfl rfl
set_option maxRecDepth 100000 in
theorem mw_2203 : (.constantLong "BreweryHouseModel$Text" 180 100 : Cond) ∈ lw_gd := tg_10 (i := 43) rfl rfl
set_option maxRecDepth 100000 in
theorem mw_2204 : (.methodLink "BreweryHouseModel$Text" 162 y_Tx_meaning : Cond) ∈ lw_gd := tg_10 (i := 44) rfl rfl
set_option maxRecDepth 100000 in
theorem mw_2206 : (.instanceMethod y_Tx_meaning : Cond) ∈ lw_gd := tg_10 (i := 46) rfl rfl
set_option maxRecDepth 100000 in
theorem mw_2207 : (.code y_Tx_meaning b_Tx_meaning 4 (some .int) : Cond) ∈ lw_gd := tg_10 (i := 47) rfl rfl
set_option maxRecDepth 100000 in
theorem mw_2208 : (.constantLong "BreweryHouseModel$Text" 77 7628147 : Cond) ∈ lw_gd := tg_10 (i := 48) rfl rfl
set_option maxRecDepth 100000 in
theorem mw_2209 : (.methodLink "BreweryHouseModel$Text" 79 y_Tx_is : Cond) ∈ lw_gd := tg_10 (i := 49) rfl rfl
set_option maxRecDepth 100000 in
theorem mw_2211 : (.instanceMethod y_Tx_is : Cond) ∈ lw_gd := tg_10 (i := 51) rfl rfl
set_option maxRecDepth 100000 in
theorem mw_2212 : (.code y_Tx_is b_Tx_is 6 (some .boolean) : Cond) ∈ lw_gd := tg_10 (i := 52) rfl rfl
set_option maxRecDepth 100000 in
theorem mw_2213 : (.constantLong "BreweryHouseModel$Text" 75 255 : Cond) ∈ lw_gd := tg_10 (i := 53) rfl rfl
set_option maxRecDepth 100000 in
theorem mw_2214 : (.constantLong "BreweryHouseModel$Text" 83 1953063287 : Cond) ∈ lw_gd := tg_10 (i := 54) rfl rfl
set_option maxRecDepth 100000 in
theorem mw_2215 : (.constantLong "BreweryHouseModel$Text" 85 465625706101 : Cond) ∈ lw_gd := tg_10 (i := 55) rfl rfl
set_option maxRecDepth 100000 in
theorem mw_2216 : (.constantLong "BreweryHouseModel$Text" 87 1886216562 : Cond) ∈ lw_gd := tg_10 (i := 56) rfl rfl
set_option maxRecDepth 100000 in
theorem mw_2217 : (.constantLong "BreweryHouseModel$Text" 89 7496048 : Cond) ∈ lw_gd := tg_10 (i := 57) rfl rfl
set_option maxRecDepth 100000 in
theorem mw_2218 : (.constantLong "BreweryHouseModel$Text" 91 26217 : Cond) ∈ lw_gd := tg_10 (i := 58) rfl rfl
set_option maxRecDepth 100000 in
theorem mw_2219 : (.constantLong "BreweryHouseModel$Text" 93 127961662514546 : Cond) ∈ lw_gd := tg_10 (i := 59) rfl rfl
set_option maxRecDepth 100000 in
theorem mw_2220 : (.constantLong "BreweryHouseModel$Text" 95 499984984428 : Cond) ∈ lw_gd := tg_10 (i := 60) rfl rfl
set_option maxRecDepth 100000 in
theorem mw_2221 : (.constantLong "BreweryHouseModel$Text" 97 7041889 : Cond) ∈ lw_gd := tg_10 (i := 61) rfl rfl
set_option maxRecDepth 100000 in
theorem mw_2222 : (.constantLong "BreweryHouseModel$Text" 99 28516 : Cond) ∈ lw_gd := tg_10 (i := 62) rfl rfl
set_option maxRecDepth 100000 in
theorem mw_2223 : (.constantLong "BreweryHouseModel$Text" 101 1886352499 : Cond) ∈ lw_gd := tg_10 (i := 63) rfl rfl
set_option maxRecDepth 100000 in
theorem mw_2224 : (.constantLong "BreweryHouseModel$Text" 103 1684828008 : Cond) ∈ lw_gd := tg_10 (i := 64) rfl rfl
set_option maxRecDepth 100000 in
theorem mw_2225 : (.constantLong "BreweryHouseModel$Text" 105 7627617 : Cond) ∈ lw_gd := tg_10 (i := 65) rfl rfl
set_option maxRecDepth 100000 in
theorem mw_2226 : (.constantLong "BreweryHouseModel$Text" 107 1885697139 : Cond) ∈ lw_gd := tg_10 (i := 66) rfl rfl
set_option maxRecDepth 100000 in
theorem mw_2227 : (.constantLong "BreweryHouseModel$Text" 109 119165719898483 : Cond) ∈ lw_gd := tg_10 (i := 67) rfl rfl
set_option maxRecDepth 100000 in
theorem mw_2228 : (.constantLong "BreweryHouseModel$Text" 111 128047746676079 : Cond) ∈ lw_gd := tg_10 (i := 68) rfl rfl
set_option maxRecDepth 100000 in
theorem mw_2229 : (.constantLong "BreweryHouseModel$Text" 113 28265 : Cond) ∈ lw_gd := tg_10 (i := 69) rfl rfl
set_option maxRecDepth 100000 in
theorem mw_2230 : (.constantLong "BreweryHouseModel$Text" 115 1702063205 : Cond) ∈ lw_gd := tg_10 (i := 70) rfl rfl
set_option maxRecDepth 100000 in
theorem mw_2231 : (.constantLong "BreweryHouseModel$Text" 117 1852139636 : Cond) ∈ lw_gd := tg_10 (i := 71) rfl rfl
set_option maxRecDepth 100000 in
theorem mw_2232 : (.constantLong "BreweryHouseModel$Text" 119 108 : Cond) ∈ lw_gd := tg_10 (i := 72) rfl rfl
set_option maxRecDepth 100000 in
theorem mw_2233 : (.constantLong "BreweryHouseModel$Text" 121 99 : Cond) ∈ lw_gd := tg_10 (i := 73) rfl rfl
set_option maxRecDepth 100000 in
theorem mw_2234 : (.constantLong "BreweryHouseModel$Text" 123 115 : Cond) ∈ lw_gd := tg_10 (i := 74) rfl rfl
set_option maxRecDepth 100000 in
theorem mw_2235 : (.constantLong "BreweryHouseModel$Text" 125 7496034 : Cond) ∈ lw_gd := tg_10 (i := 75) rfl rfl
set_option maxRecDepth 100000 in
theorem mw_2236 : (.constantLong "BreweryHouseModel$Text" 127 1953653104 : Cond) ∈ lw_gd := tg_10 (i := 76) rfl rfl
set_option maxRecDepth 100000 in
theorem mw_2237 : (.constantLong "BreweryHouseModel$Text" 129 7235949 : Cond) ∈ lw_gd := tg_10 (i := 77) rfl rfl
set_option maxRecDepth 100000 in
theorem mw_2238 : (.constantLong "BreweryHouseModel$Text" 131 104 : Cond) ∈ lw_gd := tg_10 (i := 78) rfl rfl
set_option maxRecDepth 100000 in
theorem mw_2239 : (.methodLink "BreweryHouseModel$Text" 237 y_Tx_isWord : Cond) ∈ lw_gd := tg_10 (i := 79) rfl rfl
set_option maxRecDepth 100000 in
theorem mw_2241 : (.instanceMethod y_Tx_isWord : Cond) ∈ lw_gd := tg_10 (i := 81) rfl rfl
set_option maxRecDepth 100000 in
theorem mw_2242 : (.code y_Tx_isWord b_Tx_isWord 2 (some .boolean) : Cond) ∈ lw_gd := tg_10 (i := 82) rfl rfl
set_option maxRecDepth 100000 in
theorem mw_2243 : (.methodLink "BreweryHouseModel$Text" 284 y_Tx_declaration : Cond) ∈ lw_gd := tg_10 (i := 83) rfl rfl
set_option maxRecDepth 100000 in
theorem mw_2245 : (.instanceMethod y_Tx_declaration : Cond) ∈ lw_gd := tg_10 (i := 85) rfl rfl
set_option maxRecDepth 100000 in
theorem mw_2246 : (.code y_Tx_declaration b_Tx_declaration 6 (some .boolean) : Cond) ∈ lw_gd := tg_10 (i := 86) rfl rfl
set_option maxRecDepth 100000 in
theorem mw_2247 : (.methodLink "BreweryHouseModel$Text" 278 y_Tx_tell : Cond) ∈ lw_gd := tg_10 (i := 87) rfl rfl
set_option maxRecDepth 100000 in
theorem mw_2249 : (.instanceMethod y_Tx_tell : Cond) ∈ lw_gd := tg_10 (i := 89) rfl rfl
set_option maxRecDepth 100000 in
theorem mw_2250 : (.code y_Tx_tell b_Tx_tell 4 (some .int) : Cond) ∈ lw_gd := tg_10 (i := 90) rfl rfl
set_option maxRecDepth 100000 in
theorem mw_2251 : (.methodLink "BreweryHouseModel$Text" 240 y_Tx_nameOf : Cond) ∈ lw_gd := tg_10 (i := 91) rfl rfl
set_option maxRecDepth 100000 in
theorem mw_2253 : (.instanceMethod y_Tx_nameOf : Cond) ∈ lw_gd := tg_10 (i := 93) rfl rfl
set_option maxRecDepth 100000 in
theorem mw_2254 : (.code y_Tx_nameOf b_Tx_nameOf 5 (some .int) : Cond) ∈ lw_gd := tg_10 (i := 94) rfl rfl
set_option maxRecDepth 100000 in
theorem mw_2255 : (.methodLink "BreweryHouseModel$Text" 192 y_Tx_bad : Cond) ∈ lw_gd := tg_10 (i := 95) rfl rfl
set_option maxRecDepth 100000 in
theorem mw_2257 : (.instanceMethod y_Tx_bad : Cond) ∈ lw_gd := tg_10 (i := 97) rfl rfl
set_option maxRecDepth 100000 in
theorem mw_2258 : (.code y_Tx_bad b_Tx_bad 1 (some .int) : Cond) ∈ lw_gd := tg_10 (i := 98) rfl rfl
set_option maxRecDepth 100000 in
theorem mw_2259 : (.methodLink "BreweryHouseModel$Text" 243 y_Tx_unitWord : Cond) ∈ lw_gd := tg_10 (i := 99) rfl rfl
set_option maxRecDepth 100000 in
theorem mw_2261 : (.instanceMethod y_Tx_unitWord : Cond) ∈ lw_gd := tg_10 (i := 101) rfl rfl
set_option maxRecDepth 100000 in
theorem mw_2262 : (.code y_Tx_unitWord b_Tx_unitWord 2 (some .int) : Cond) ∈ lw_gd := tg_10 (i := 102) rfl rfl
set_option maxRecDepth 100000 in
theorem mw_2263 : (.methodLink "BreweryHouseModel$Text" 234 y_Tx_over : Cond) ∈ lw_gd := tg_10 (i := 103) rfl rfl
set_option maxRecDepth 100000 in
theorem mw_2265 : (.instanceMethod y_Tx_over : Cond) ∈ lw_gd := tg_10 (i := 105) rfl rfl
set_option maxRecDepth 100000 in
theorem mw_2266 : (.code y_Tx_over b_Tx_over 2 (some .boolean) : Cond) ∈ lw_gd := tg_10 (i := 106) rfl rfl
set_option maxRecDepth 100000 in
theorem mw_2267 : (.methodLink "BreweryHouseModel$Text" 270 y_Tx_block : Cond) ∈ lw_gd := tg_10 (i := 107) rfl rfl
set_option maxRecDepth 100000 in
theorem mw_2269 : (.instanceMethod y_Tx_block : Cond) ∈ lw_gd := tg_10 (i := 109) rfl rfl
set_option maxRecDepth 100000 in
theorem mw_2270 : (.code y_Tx_block b_Tx_block 4 (some .int) : Cond) ∈ lw_gd := tg_10 (i := 110) rfl rfl
set_option maxRecDepth 100000 in
theorem mw_2271 : (.methodLink "BreweryHouseModel$Text" 255 y_Tx_statement : Cond) ∈ lw_gd := tg_10 (i := 111) rfl rfl
set_option maxRecDepth 100000 in
theorem mw_2273 : (.instanceMethod y_Tx_statement : Cond) ∈ lw_gd := tg_10 (i := 113) rfl rfl
set_option maxRecDepth 100000 in
theorem mw_2274 : (.code y_Tx_statement b_Tx_statement 6 (some .int) : Cond) ∈ lw_gd := tg_10 (i := 114) rfl rfl
set_option maxRecDepth 100000 in
theorem mw_2275 : (.methodLink "BreweryHouseModel$Text" 258 y_Tx_known : Cond) ∈ lw_gd := tg_10 (i := 115) rfl rfl
set_option maxRecDepth 100000 in
theorem mw_2277 : (.instanceMethod y_Tx_known : Cond) ∈ lw_gd := tg_10 (i := 117) rfl rfl
set_option maxRecDepth 100000 in
theorem mw_2278 : (.code y_Tx_known b_Tx_known 3 (some .int) : Cond) ∈ lw_gd := tg_10 (i := 118) rfl rfl
set_option maxRecDepth 100000 in
theorem mw_2279 : (.methodLink "BreweryHouseModel$Text" 261 y_Tx_sumOf : Cond) ∈ lw_gd := tg_10 (i := 119) rfl rfl
set_option maxRecDepth 100000 in
theorem mw_2281 : (.instanceMethod y_Tx_sumOf : Cond) ∈ lw_gd := tg_10 (i := 121) rfl rfl
set_option maxRecDepth 100000 in
theorem mw_2282 : (.code y_Tx_sumOf b_Tx_sumOf 3 (some .boolean) : Cond) ∈ lw_gd := tg_10 (i := 122) rfl rfl
set_option maxRecDepth 100000 in
theorem mw_2283 : (.methodLink "BreweryHouseModel$Text" 231 y_Tx_sum : Cond) ∈ lw_gd := tg_10 (i := 123) rfl rfl
set_option maxRecDepth 100000 in
theorem mw_2285 : (.instanceMethod y_Tx_sum : Cond) ∈ lw_gd := tg_10 (i := 125) rfl rfl
set_option maxRecDepth 100000 in
theorem mw_2286 : (.code y_Tx_sum b_Tx_sum 5 (some .int) : Cond) ∈ lw_gd := tg_10 (i := 126) rfl rfl
set_option maxRecDepth 100000 in
theorem mw_2287 : (.methodLink "BreweryHouseModel$Text" 212 y_Tx_product : Cond) ∈ lw_gd := tg_10 (i := 127) rfl rfl
set_option maxRecDepth 100000 in
theorem mw_2289 : (.instanceMethod y_Tx_product : Cond) ∈ lw_gd := tg_10 (i := 129) rfl rfl
set_option maxRecDepth 100000 in
theorem mw_2290 : (.code y_Tx_product b_Tx_product 8 (some .int) : Cond) ∈ lw_gd := tg_10 (i := 130) rfl rfl
set_option maxRecDepth 100000 in
theorem mw_2291 : (.methodLink "BreweryHouseModel$Text" 222 y_Tx_factor : Cond) ∈ lw_gd := tg_10 (i := 131) rfl rfl
set_option maxRecDepth 100000 in
theorem mw_2293 : (.instanceMethod y_Tx_factor : Cond) ∈ lw_gd := tg_10 (i := 133) rfl rfl
set_option maxRecDepth 100000 in
theorem mw_2294 : (.code y_Tx_factor b_Tx_factor 5 (some .int) : Cond) ∈ lw_gd := tg_10 (i := 134) rfl rfl
set_option maxRecDepth 100000 in
theorem mw_2295 : (.methodLink "BreweryHouseModel$Text" 225 y_Tx_numberNode : Cond) ∈ lw_gd := tg_10 (i := 135) rfl rfl
set_option maxRecDepth 100000 in
theorem mw_2297 : (.instanceMethod y_Tx_numberNode : Cond) ∈ lw_gd := tg_10 (i := 137) rfl rfl
set_option maxRecDepth 100000 in
theorem mw_2298 : (.code y_Tx_numberNode b_Tx_numberNode 6 (some .int) : Cond) ∈ lw_gd := tg_10 (i := 138) rfl rfl
set_option maxRecDepth 100000 in
theorem mw_2299 : (.constantLong "BreweryHouseModel$Text" 246 60 : Cond) ∈ lw_gd := tg_10 (i := 139) rfl rfl
set_option maxRecDepth 100000 in
theorem mw_2300 : (.constantLong "BreweryHouseModel$Text" 248 3600 : Cond) ∈ lw_gd := tg_10 (i := 140) rfl rfl
set_option maxRecDepth 100000 in
theorem mw_2301 : (.constantLong "BreweryHouseModel$Text" 250 999999999999 : Cond) ∈ lw_gd := tg_10 (i := 141) rfl rfl
set_option maxRecDepth 100000 in
theorem mw_2302 : (.methodLink "BreweryHouseModel$Text" 208 y_Tx_node0 : Cond) ∈ lw_gd := tg_10 (i := 142) rfl rfl
set_option maxRecDepth 100000 in
theorem mw_2304 : (.instanceMethod y_Tx_node0 : Cond) ∈ lw_gd := tg_10 (i := 144) rfl rfl
set_option maxRecDepth 100000 in
theorem mw_2305 : (.code y_Tx_node0 b_Tx_node0 9 (some .int) : Cond) ∈ lw_gd := tg_10 (i := 145) rfl rfl
set_option maxRecDepth 100000 in
theorem mw_2306 : (.methodLink "BreweryHouseModel$Text" 195 y_Tx_base : Cond) ∈ lw_gd := tg_10 (i := 146) rfl rfl
set_option maxRecDepth 100000 in
theorem mw_2308 : (.instanceMethod y_Tx_base : Cond) ∈ lw_gd := tg_10 (i := 148) rfl rfl
set_option maxRecDepth 100000 in
theorem mw_2309 : (.code y_Tx_base b_Tx_base 1 (some .int) : Cond) ∈ lw_gd := tg_10 (i := 149) rfl rfl
set_option maxRecDepth 100000 in
theorem mw_2310 : (.methodLink "BreweryHouseModel$Text" 204 y_Tx_push : Cond) ∈ lw_gd := tg_10 (i := 150) rfl rfl
set_option maxRecDepth 100000 in
theorem mw_2312 : (.instanceMethod y_Tx_push : Cond) ∈ lw_gd := tg_10 (i := 152) rfl rfl
set_option maxRecDepth 100000 in
theorem mw_2313 : (.code y_Tx_push b_Tx_push 2 none : Cond) ∈ lw_gd := tg_10 (i := 153) rfl rfl
set_option maxRecDepth 100000 in
theorem mw_2314 : (.methodLink "BreweryHouseModel$Text" 215 y_Tx_unitIn : Cond) ∈ lw_gd := tg_10 (i := 154) rfl rfl
set_option maxRecDepth 100000 in
theorem mw_2316 : (.instanceMethod y_Tx_unitIn : Cond) ∈ lw_gd := tg_10 (i := 156) rfl rfl
set_option maxRecDepth 100000 in
theorem mw_2317 : (.code y_Tx_unitIn b_Tx_unitIn 2 (some .int) : Cond) ∈ lw_gd := tg_10 (i := 157) rfl rfl
set_option maxRecDepth 100000 in
theorem mw_2318 : (.methodLink "BreweryHouseModel$Text" 218 y_Tx_two : Cond) ∈ lw_gd := tg_10 (i := 158) rfl rfl
set_option maxRecDepth 100000 in
theorem mw_2320 : (.instanceMethod y_Tx_two : Cond) ∈ lw_gd := tg_10 (i := 160) rfl rfl
set_option maxRecDepth 100000 in
theorem mw_2321 : (.code y_Tx_two b_Tx_two 6 (some .int) : Cond) ∈ lw_gd := tg_10 (i := 161) rfl rfl
set_option maxRecDepth 100000 in
theorem mw_2322 : (.methodLink "BreweryHouseModel$Text" 264 y_Tx_test : Cond) ∈ lw_gd := tg_10 (i := 162) rfl rfl
set_option maxRecDepth 100000 in
theorem mw_2324 : (.instanceMethod y_Tx_test : Cond) ∈ lw_gd := tg_10 (i := 164) rfl rfl
set_option maxRecDepth 100000 in
theorem mw_2325 : (.code y_Tx_test b_Tx_test 5 (some .int) : Cond) ∈ lw_gd := tg_10 (i := 165) rfl rfl
set_option maxRecDepth 100000 in
theorem mw_2326 : (.methodLink "BreweryHouseModel$Text" 267 y_Tx_pushed : Cond) ∈ lw_gd := tg_10 (i := 166) rfl rfl
set_option maxRecDepth 100000 in
theorem mw_2328 : (.instanceMethod y_Tx_pushed : Cond) ∈ lw_gd := tg_10 (i := 168) rfl rfl
set_option maxRecDepth 100000 in
theorem mw_2329 : (.code y_Tx_pushed b_Tx_pushed 2 (some .boolean) : Cond) ∈ lw_gd := tg_10 (i := 169) rfl rfl
set_option maxRecDepth 100000 in
theorem mw_2330 : (.constantLong "BreweryHouseModel$Text" 273 32000 : Cond) ∈ lw_gd := tg_10 (i := 170) rfl rfl
set_option maxRecDepth 100000 in
theorem mw_2331 : (.methodLink "BreweryHouseModel$Text" 290 y_Tx_isSmall : Cond) ∈ lw_gd := tg_10 (i := 171) rfl rfl
set_option maxRecDepth 100000 in
theorem mw_2333 : (.instanceMethod y_Tx_isSmall : Cond) ∈ lw_gd := tg_10 (i := 173) rfl rfl
set_option maxRecDepth 100000 in
theorem mw_2334 : (.code y_Tx_isSmall b_Tx_isSmall 6 (some .boolean) : Cond) ∈ lw_gd := tg_10 (i := 174) rfl rfl
set_option maxRecDepth 100000 in
theorem mw_2335 : (.methodLink "BreweryHouseModel" 231 y_Mo_closeAll : Cond) ∈ lw_gd := tg_10 (i := 175) rfl rfl
set_option maxRecDepth 100000 in
theorem mw_2337 : (.instanceMethod y_Mo_closeAll : Cond) ∈ lw_gd := tg_10 (i := 177) rfl rfl
set_option maxRecDepth 100000 in
theorem mw_2338 : (.code y_Mo_closeAll b_Mo_closeAll 1 none : Cond) ∈ lw_gd := tg_10 (i := 178) rfl rfl
set_option maxRecDepth 100000 in
theorem mw_2339 : (.methodLink "BreweryHouseModel" 403 y_Mo_close : Cond) ∈ lw_gd := tg_10 (i := 179) rfl rfl
set_option maxRecDepth 100000 in
theorem mw_2341 : (.instanceMethod y_Mo_close : Cond) ∈ lw_gd := tg_10 (i := 181) rfl rfl
set_option maxRecDepth 100000 in
theorem mw_2342 : (.code y_Mo_close b_Mo_close 4 none : Cond) ∈ lw_gd := tg_10 (i := 182) rfl rfl
set_option maxRecDepth 100000 in
theorem mw_2343 : (.methodLink "BreweryHouseModel" 377 y_Mo_held : Cond) ∈ lw_gd := tg_10 (i := 183) rfl rfl
set_option maxRecDepth 100000 in
theorem mw_2345 : (.instanceMethod y_Mo_held : Cond) ∈ lw_gd := tg_10 (i := 185) rfl rfl
set_option maxRecDepth 100000 in
theorem mw_2346 : (.code y_Mo_held b_Mo_held 3 (some .int) : Cond) ∈ lw_gd := tg_10 (i := 186) rfl rfl
set_option maxRecDepth 100000 in
theorem mw_2351 : (.constantLong "BreweryHouseModel" 303 1886221680 : Cond) ∈ lw_gd := tg_10 (i := 191) rfl rfl
set_option maxRecDepth 100000 in
theorem mw_2352 : (.methodLink "BreweryHouseModel" 305 y_Mo_say : Cond) ∈ lw_gd := tg_10 (i := 192) rfl rfl
set_option maxRecDepth 100000 in
theorem mw_2354 : (.instanceMethod y_Mo_say : Cond) ∈ lw_gd := tg_10 (i := 194) rfl rfl
set_option maxRecDepth 100000 in
theorem mw_2355 : (.code y_Mo_say b_Mo_say 5 none : Cond) ∈ lw_gd := tg_10 (i := 195) rfl rfl
set_option maxRecDepth 100000 in
theorem mw_2356 : (.methodLink "BreweryHouseModel" 300 y_Mo_letter : Cond) ∈ lw_gd := tg_10 (i := 196) rfl rfl
set_option maxRecDepth 100000 in
theorem mw_2358 : (.instanceMethod y_Mo_letter : Cond) ∈ lw_gd := tg_10 (i := 198) rfl rfl
set_option maxRecDepth 100000 in
theorem mw_2359 : (.code y_Mo_letter b_Mo_letter 2 none : Cond) ∈ lw_gd := tg_10 (i := 199) rfl rfl
set_option maxRecDepth 100000 in
theorem mw_2360 : (.methodLink "BreweryHouseModel" 309 y_Mo_sayNumber : Cond) ∈ lw_gd := tg_10 (i := 200) rfl rfl
set_option maxRecDepth 100000 in
theorem mw_2362 : (.instanceMethod y_Mo_sayNumber : Cond) ∈ lw_gd := tg_10 (i := 202) rfl rfl
set_option maxRecDepth 100000 in
theorem mw_2363 : (.code y_Mo_sayNumber b_Mo_sayNumber 4 none : Cond) ∈ lw_gd := tg_10 (i := 203) rfl rfl
set_option maxRecDepth 100000 in
theorem mw_2364 : (.constantLong "BreweryHouseModel" 312 1701865840 : Cond) ∈ lw_gd := tg_10 (i := 204) rfl rfl
set_option maxRecDepth 100000 in
theorem mw_2369 : (.methodLink "BreweryHouseModel" 366 y_Mo_look : Cond) ∈ lw_gd := tg_10 (i := 209) rfl rfl
set_option maxRecDepth 100000 in
theorem mw_2371 : (.instanceMethod y_Mo_look : Cond) ∈ lw_gd := tg_10 (i := 211) rfl rfl
set_option maxRecDepth 100000 in
theorem mw_2372 : (.code y_Mo_look b_Mo_look 3 none : Cond) ∈ lw_gd := tg_10 (i := 212) rfl rfl
set_option maxRecDepth 100000 in
theorem mw_2373 : (.methodLink "BreweryHouseModel" 323 y_Mo_liquidIn : Cond) ∈ lw_gd := tg_10 (i := 213) rfl rfl
set_option maxRecDepth 100000 in
theorem mw_2375 : (.instanceMethod y_Mo_liquidIn : Cond) ∈ lw_gd := tg_10 (i := 215) rfl rfl
set_option maxRecDepth 100000 in
theorem mw_2376 : (.code y_Mo_liquidIn b_Mo_liquidIn 6 (some .int) : Cond) ∈ lw_gd := tg_10 (i := 216) rfl rfl
set_option maxRecDepth 100000 in
theorem mw_2377 : (.methodLink "BreweryHouseModel" 362 y_Mo_carry : Cond) ∈ lw_gd := tg_10 (i := 217) rfl rfl
set_option maxRecDepth 100000 in
theorem mw_2379 : (.instanceMethod y_Mo_carry : Cond) ∈ lw_gd := tg_10 (i := 219) rfl rfl
set_option maxRecDepth 100000 in
theorem mw_2380 : (.code y_Mo_carry b_Mo_carry 3 none : Cond) ∈ lw_gd := tg_10 (i := 220) rfl rfl
set_option maxRecDepth 100000 in
theorem mw_2381 : (.methodLink "BreweryHouseModel" 369 y_Mo_isSafe : Cond) ∈ lw_gd := tg_10 (i := 221) rfl rfl
set_option maxRecDepth 100000 in
theorem mw_2383 : (.instanceMethod y_Mo_isSafe : Cond) ∈ lw_gd := tg_10 (i := 223) rfl rfl
set_option maxRecDepth 100000 in
theorem mw_2384 : (.code y_Mo_isSafe b_Mo_isSafe 5 (some .boolean) : Cond) ∈ lw_gd := tg_10 (i := 224) rfl rfl
set_option maxRecDepth 100000 in
theorem mw_2385 : (.methodLink "BreweryHouseModel" 359 y_Mo_isCalm : Cond) ∈ lw_gd := tg_10 (i := 225) rfl rfl
set_option maxRecDepth 100000 in
theorem mw_2387 : (.instanceMethod y_Mo_isCalm : Cond) ∈ lw_gd := tg_10 (i := 227) rfl rfl
set_option maxRecDepth 100000 in
theorem mw_2388 : (.code y_Mo_isCalm b_Mo_isCalm 5 (some .boolean) : Cond) ∈ lw_gd := tg_10 (i := 228) rfl rfl
set_option maxRecDepth 100000 in
theorem mw_2389 : (.methodLink "BreweryHouseModel" 336 y_Mo_join : Cond) ∈ lw_gd := tg_10 (i := 229) rfl rfl
set_option maxRecDepth 100000 in
theorem mw_2391 : (.instanceMethod y_Mo_join : Cond) ∈ lw_gd := tg_10 (i := 231) rfl rfl
set_option maxRecDepth 100000 in
theorem mw_2392 : (.code y_Mo_join b_Mo_join 6 none : Cond) ∈ lw_gd := tg_10 (i := 232) rfl rfl
set_option maxRecDepth 100000 in
theorem mw_2393 : (.methodLink "BreweryHouseModel" 332 y_Mo_passes : Cond) ∈ lw_gd := tg_10 (i := 233) rfl rfl
set_option maxRecDepth 100000 in
theorem mw_2394 : (.static y_Mo_passes : Cond) ∈ lw_gd := tg_10 (i := 234) rfl rfl
set_option maxRecDepth 100000 in
theorem mw_2395 : (.code y_Mo_passes b_Mo_passes 7 (some .boolean) : Cond) ∈ lw_gd := tg_10 (i := 235) rfl rfl
set_option maxRecDepth 100000 in
theorem mw_2396 : (.methodLink "BreweryHouseModel" 339 y_Mo_flood : Cond) ∈ lw_gd := tg_10 (i := 236) rfl rfl
set_option maxRecDepth 100000 in
theorem mw_2398 : (.instanceMethod y_Mo_flood : Cond) ∈ lw_gd := tg_10 (i := 238) rfl rfl
set_option maxRecDepth 100000 in
theorem mw_2399 : (.code y_Mo_flood b_Mo_flood 8 (some .long) : Cond) ∈ lw_gd := tg_10 (i := 239) rfl rfl
set_option maxRecDepth 100000 in
theorem mw_2400 : (.methodLink "BreweryHouseModel" 343 y_Mo_mayMeet : Cond) ∈ lw_gd := tg_11 (i := 0) rfl rfl
set_option maxRecDepth 100000 in
theorem mw_2402 : (.instanceMethod y_Mo_mayMeet : Cond) ∈ lw_gd := tg_11 (i := 2) rfl rfl
set_option maxRecDepth 100000 in
theorem mw_2403 : (.code y_Mo_mayMeet b_Mo_mayMeet 3 (some .boolean) : Cond) ∈ lw_gd := tg_11 (i := 3) rfl rfl
set_option maxRecDepth 100000 in
theorem mw_2412 : (.methodLink "BreweryHouseModel" 412 y_Mo_isValve : Cond) ∈ lw_gd := tg_11 (i := 12) rfl rfl
set_option maxRecDepth 100000 in
theorem mw_2414 : (.instanceMethod y_Mo_isValve : Cond) ∈ lw_gd := tg_11 (i := 14) rfl rfl
set_option maxRecDepth 100000 in
theorem mw_2415 : (.code y_Mo_isValve b_Mo_isValve 2 (some .boolean) : Cond) ∈ lw_gd := tg_11 (i := 15) rfl rfl
set_option maxRecDepth 100000 in
theorem mw_2416 : (.methodLink "BreweryHouseModel" 314 y_Mo_isThing : Cond) ∈ lw_gd := tg_11 (i := 16) rfl rfl
set_option maxRecDepth 100000 in
theorem mw_2418 : (.instanceMethod y_Mo_isThing : Cond) ∈ lw_gd := tg_11 (i := 18) rfl rfl
set_option maxRecDepth 100000 in
theorem mw_2419 : (.code y_Mo_isThing b_Mo_isThing 2 (some .boolean) : Cond) ∈ lw_gd := tg_11 (i := 19) rfl rfl
set_option maxRecDepth 100000 in
theorem mw_2420 : (.methodLink "BreweryHouseModel" 415 y_Mo_holdsLiquid : Cond) ∈ lw_gd := tg_11 (i := 20) rfl rfl
set_option maxRecDepth 100000 in
theorem mw_2422 : (.instanceMethod y_Mo_holdsLiquid : Cond) ∈ lw_gd := tg_11 (i := 22) rfl rfl
set_option maxRecDepth 100000 in
theorem mw_2423 : (.code y_Mo_holdsLiquid b_Mo_holdsLiquid 2 (some .boolean) : Cond) ∈ lw_gd := tg_11 (i := 23) rfl rfl
set_option maxRecDepth 100000 in
theorem mw_2424 : (.methodLink "BreweryHouseModel" 317 y_Mo_isTank : Cond) ∈ lw_gd := tg_11 (i := 24) rfl rfl
set_option maxRecDepth 100000 in
theorem mw_2426 : (.instanceMethod y_Mo_isTank : Cond) ∈ lw_gd := tg_11 (i := 26) rfl rfl
set_option maxRecDepth 100000 in
theorem mw_2427 : (.code y_Mo_isTank b_Mo_isTank 2 (some .boolean) : Cond) ∈ lw_gd := tg_11 (i := 27) rfl rfl
set_option maxRecDepth 100000 in
theorem mw_2428 : (.methodLink "BreweryHouseModel" 320 y_Mo_isPipe : Cond) ∈ lw_gd := tg_11 (i := 28) rfl rfl
set_option maxRecDepth 100000 in
theorem mw_2430 : (.instanceMethod y_Mo_isPipe : Cond) ∈ lw_gd := tg_11 (i := 30) rfl rfl
set_option maxRecDepth 100000 in
theorem mw_2431 : (.code y_Mo_isPipe b_Mo_isPipe 2 (some .boolean) : Cond) ∈ lw_gd := tg_11 (i := 31) rfl rfl
set_option maxRecDepth 100000 in
theorem mw_2432 : (.methodLink "BreweryHouseModel" 418 y_Mo_litresIn : Cond) ∈ lw_gd := tg_11 (i := 32) rfl rfl
set_option maxRecDepth 100000 in
theorem mw_2434 : (.instanceMethod y_Mo_litresIn : Cond) ∈ lw_gd := tg_11 (i := 34) rfl rfl
set_option maxRecDepth 100000 in
theorem mw_2435 : (.code y_Mo_litresIn b_Mo_litresIn 4 (some .int) : Cond) ∈ lw_gd := tg_11 (i := 35) rfl rfl
set_option maxRecDepth 100000 in
theorem mw_2436 : (.methodLink "BreweryHouseModel" 329 y_Mo_level : Cond) ∈ lw_gd := tg_11 (i := 36) rfl rfl
set_option maxRecDepth 100000 in
theorem mw_2438 : (.instanceMethod y_Mo_level : Cond) ∈ lw_gd := tg_11 (i := 38) rfl rfl
set_option maxRecDepth 100000 in
theorem mw_2439 : (.code y_Mo_level b_Mo_level 4 (some .int) : Cond) ∈ lw_gd := tg_11 (i := 39) rfl rfl
set_option maxRecDepth 100000 in
theorem mw_2444 : (.constantLong "BreweryHouseModel" 421 100000 : Cond) ∈ lw_gd := tg_11 (i := 44) rfl rfl
set_option maxRecDepth 100000 in
theorem mw_2445 : (.methodLink "BreweryHouseModel" 400 y_Mo_mayCome : Cond) ∈ lw_gd := tg_11 (i := 45) rfl rfl
set_option maxRecDepth 100000 in
theorem mw_2447 : (.instanceMethod y_Mo_mayCome : Cond) ∈ lw_gd := tg_11 (i := 47) rfl rfl
set_option maxRecDepth 100000 in
theorem mw_2448 : (.code y_Mo_mayCome b_Mo_mayCome 5 (some .boolean) : Cond) ∈ lw_gd := tg_11 (i := 48) rfl rfl
set_option maxRecDepth 100000 in
theorem mw_2449 : (.methodLink "BreweryHouseModel" 409 y_Mo_note : Cond) ∈ lw_gd := tg_11 (i := 49) rfl rfl
set_option maxRecDepth 100000 in
theorem mw_2451 : (.instanceMethod y_Mo_note : Cond) ∈ lw_gd := tg_11 (i := 51) rfl rfl
set_option maxRecDepth 100000 in
theorem mw_2452 : (.code y_Mo_note b_Mo_note 3 none : Cond) ∈ lw_gd := tg_11 (i := 52) rfl rfl
set_option maxRecDepth 100000 in
theorem mw_2465 : (.constant "BreweryHouseModel" 423 1000000 : Cond) ∈ lw_gd := tg_11 (i := 65) rfl rfl
set_option maxRecDepth 100000 in
theorem mw_2474 : (.methodLink "BreweryHouseModel" 436 y_Mo_perform : Cond) ∈ lw_gd := tg_11 (i := 74) rfl rfl
set_option maxRecDepth 100000 in
theorem mw_2476 : (.instanceMethod y_Mo_perform : Cond) ∈ lw_gd := tg_11 (i := 76) rfl rfl
set_option maxRecDepth 100000 in
theorem mw_2477 : (.code y_Mo_perform b_Mo_perform 7 (some .int) : Cond) ∈ lw_gd := tg_11 (i := 77) rfl rfl
set_option maxRecDepth 100000 in
theorem mw_2478 : (.methodLink "BreweryHouseModel" 424 y_Mr_act1 : Cond) ∈ lw_gd := tg_11 (i := 78) rfl rfl
set_option maxRecDepth 100000 in
theorem mw_2479 : (.instanceMethod y_Mr_act1 : Cond) ∈ lw_gd := tg_11 (i := 79) rfl rfl
set_option maxRecDepth 100000 in
theorem mw_2480 : (.selects "BreweryHouseModel$Rows" y_Mr_act1 y_Mr_act1 : Cond) ∈ lw_gd := tg_11 (i := 80) rfl rfl
set_option maxRecDepth 100000 in
theorem mw_2481 : (.code y_Mr_act1 b_Mr_act1 4 (some .int) : Cond) ∈ lw_gd := tg_11 (i := 81) rfl rfl
set_option maxRecDepth 100000 in
theorem mw_2482 : (.methodLink "BreweryHouseModel$Rows" 143 y_Mr_isOn : Cond) ∈ lw_gd := tg_11 (i := 82) rfl rfl
set_option maxRecDepth 100000 in
theorem mw_2484 : (.instanceMethod y_Mr_isOn : Cond) ∈ lw_gd := tg_11 (i := 84) rfl rfl
set_option maxRecDepth 100000 in
theorem mw_2485 : (.code y_Mr_isOn b_Mr_isOn 2 (some .boolean) : Cond) ∈ lw_gd := tg_11 (i := 85) rfl rfl
set_option maxRecDepth 100000 in
theorem mw_2486 : (.methodLink "BreweryHouseModel$Rows" 139 y_Mr_value : Cond) ∈ lw_gd := tg_11 (i := 86) rfl rfl
set_option maxRecDepth 100000 in
theorem mw_2488 : (.instanceMethod y_Mr_value : Cond) ∈ lw_gd := tg_11 (i := 88) rfl rfl
set_option maxRecDepth 100000 in
theorem mw_2489 : (.code y_Mr_value b_Mr_value 2 (some .boolean) : Cond) ∈ lw_gd := tg_11 (i := 89) rfl rfl
set_option maxRecDepth 100000 in
theorem mw_2490 : (.methodLink "BreweryHouseModel$Rows" 147 y_Mr_hasAct : Cond) ∈ lw_gd := tg_11 (i := 90) rfl rfl
set_option maxRecDepth 100000 in
theorem mw_2492 : (.instanceMethod y_Mr_hasAct : Cond) ∈ lw_gd := tg_11 (i := 92) rfl rfl
set_option maxRecDepth 100000 in
theorem mw_2493 : (.code y_Mr_hasAct b_Mr_hasAct 6 (some .boolean) : Cond) ∈ lw_gd := tg_11 (i := 93) rfl rfl
set_option maxRecDepth 100000 in
theorem mw_2494 : (.methodLink "BreweryHouseModel" 427 y_Mo_open : Cond) ∈ lw_gd := tg_11 (i := 94) rfl rfl
set_option maxRecDepth 100000 in
theorem mw_2496 : (.instanceMethod y_Mo_open : Cond) ∈ lw_gd := tg_11 (i := 96) rfl rfl
set_option maxRecDepth 100000 in
theorem mw_2497 : (.code y_Mo_open b_Mo_open 7 (some .int) : Cond) ∈ lw_gd := tg_11 (i := 97) rfl rfl
set_option maxRecDepth 100000 in
theorem mw_2498 : (.methodLink "BreweryHouseModel" 394 y_Mo_openWay : Cond) ∈ lw_gd := tg_11 (i := 98) rfl rfl
set_option maxRecDepth 100000 in
theorem mw_2500 : (.instanceMethod y_Mo_openWay : Cond) ∈ lw_gd := tg_11 (i := 100) rfl rfl
set_option maxRecDepth 100000 in
theorem mw_2501 : (.code y_Mo_openWay b_Mo_openWay 4 (some .int) : Cond) ∈ lw_gd := tg_11 (i := 101) rfl rfl
set_option maxRecDepth 100000 in
theorem mw_2502 : (.methodLink "BreweryHouseModel" 397 y_Mo_find : Cond) ∈ lw_gd := tg_11 (i := 102) rfl rfl
set_option maxRecDepth 100000 in
theorem mw_2504 : (.instanceMethod y_Mo_find : Cond) ∈ lw_gd := tg_11 (i := 104) rfl rfl
set_option maxRecDepth 100000 in
theorem mw_2505 : (.code y_Mo_find b_Mo_find 7 (some .boolean) : Cond) ∈ lw_gd := tg_11 (i := 105) rfl rfl
set_option maxRecDepth 100000 in
theorem mw_2506 : (.methodLink "BreweryHouseModel" 388 y_Mo_measure : Cond) ∈ lw_gd := tg_11 (i := 106) rfl rfl
set_option maxRecDepth 100000 in
theorem mw_2508 : (.instanceMethod y_Mo_measure : Cond) ∈ lw_gd := tg_11 (i := 108) rfl rfl
set_option maxRecDepth 100000 in
theorem mw_2509 : (.code y_Mo_measure b_Mo_measure 8 none : Cond) ∈ lw_gd := tg_11 (i := 109) rfl rfl
set_option maxRecDepth 100000 in
theorem mw_2510 : (.methodLink "BreweryHouseModel" 384 y_Mo_needOf : Cond) ∈ lw_gd := tg_11 (i := 110) rfl rfl
set_option maxRecDepth 100000 in
theorem mw_2512 : (.instanceMethod y_Mo_needOf : Cond) ∈ lw_gd := tg_11 (i := 112) rfl rfl
set_option maxRecDepth 100000 in
theorem mw_2513 : (.code y_Mo_needOf b_Mo_needOf 5 (some .int) : Cond) ∈ lw_gd := tg_11 (i := 113) rfl rfl
set_option maxRecDepth 100000 in
theorem mw_2514 : (.methodLink "BreweryHouseModel" 380 y_Mo_least : Cond) ∈ lw_gd := tg_11 (i := 114) rfl rfl
set_option maxRecDepth 100000 in
theorem mw_2515 : (.static y_Mo_least : Cond) ∈ lw_gd := tg_11 (i := 115) rfl rfl
set_option maxRecDepth 100000 in
theorem mw_2516 : (.code y_Mo_least b_Mo_least 4 (some .int) : Cond) ∈ lw_gd := tg_11 (i := 116) rfl rfl
set_option maxRecDepth 100000 in
theorem mw_2517 : (.methodLink "BreweryHouseModel" 430 y_Mo_isOnWay : Cond) ∈ lw_gd := tg_11 (i := 117) rfl rfl
set_option maxRecDepth 100000 in
theorem mw_2519 : (.instanceMethod y_Mo_isOnWay : Cond) ∈ lw_gd := tg_11 (i := 119) rfl rfl
set_option maxRecDepth 100000 in
theorem mw_2520 : (.code y_Mo_isOnWay b_Mo_isOnWay 4 (some .boolean) : Cond) ∈ lw_gd := tg_11 (i := 120) rfl rfl
set_option maxRecDepth 100000 in
theorem mw_2521 : (.methodLink "BreweryHouseModel" 439 y_Mo_raise : Cond) ∈ lw_gd := tg_11 (i := 121) rfl rfl
set_option maxRecDepth 100000 in
theorem mw_2523 : (.instanceMethod y_Mo_raise : Cond) ∈ lw_gd := tg_11 (i := 123) rfl rfl
set_option maxRecDepth 100000 in
theorem mw_2524 : (.code y_Mo_raise b_Mo_raise 3 none : Cond) ∈ lw_gd := tg_11 (i := 124) rfl rfl
set_option maxRecDepth 100000 in
theorem mw_2529 : (.methodLink "BreweryHouseModel" 451 y_Mo_isRole : Cond) ∈ lw_gd := tg_11 (i := 129) rfl rfl
set_option maxRecDepth 100000 in
theorem mw_2531 : (.instanceMethod y_Mo_isRole : Cond) ∈ lw_gd := tg_11 (i := 131) rfl rfl
set_option maxRecDepth 100000 in
theorem mw_2532 : (.code y_Mo_isRole b_Mo_isRole 3 (some .boolean) : Cond) ∈ lw_gd := tg_11 (i := 132) rfl rfl
set_option maxRecDepth 100000 in
theorem mw_2549 : (.methodLink "BreweryHouseModel" 463 y_Mr_pass : Cond) ∈ lw_gd := tg_11 (i := 149) rfl rfl
set_option maxRecDepth 100000 in
theorem mw_2550 : (.instanceMethod y_Mr_pass : Cond) ∈ lw_gd := tg_11 (i := 150) rfl rfl
set_option maxRecDepth 100000 in
theorem mw_2551 : (.selects "BreweryHouseModel$Rows" y_Mr_pass y_Mr_pass : Cond) ∈ lw_gd := tg_11 (i := 151) rfl rfl
set_option maxRecDepth 100000 in
theorem mw_2552 : (.code y_Mr_pass b_Mr_pass 5 (some .int) : Cond) ∈ lw_gd := tg_11 (i := 152) rfl rfl
set_option maxRecDepth 100000 in
theorem mw_2553 : (.methodLink "BreweryHouseModel$Rows" 151 y_Mr_isRow : Cond) ∈ lw_gd := tg_11 (i := 153) rfl rfl
set_option maxRecDepth 100000 in
theorem mw_2555 : (.instanceMethod y_Mr_isRow : Cond) ∈ lw_gd := tg_11 (i := 155) rfl rfl
set_option maxRecDepth 100000 in
theorem mw_2556 : (.code y_Mr_isRow b_Mr_isRow 2 (some .boolean) : Cond) ∈ lw_gd := tg_11 (i := 156) rfl rfl
set_option maxRecDepth 100000 in
theorem mw_2561 : (.methodLink "BreweryHouseModel" 467 y_Mr_reset : Cond) ∈ lw_gd := tg_11 (i := 161) rfl rfl
set_option maxRecDepth 100000 in
theorem mw_2562 : (.instanceMethod y_Mr_reset : Cond) ∈ lw_gd := tg_11 (i := 162) rfl rfl
set_option maxRecDepth 100000 in
theorem mw_2563 : (.selects "BreweryHouseModel$Rows" y_Mr_reset y_Mr_reset : Cond) ∈ lw_gd := tg_11 (i := 163) rfl rfl
set_option maxRecDepth 100000 in
theorem mw_2564 : (.code y_Mr_reset b_Mr_reset 2 (some .boolean) : Cond) ∈ lw_gd := tg_11 (i := 164) rfl rfl
set_option maxRecDepth 100000 in
theorem mw_2580 : (.instanceMethod y_Tx_node1 : Cond) ∈ lw_gd := tg_11 (i := 180) rfl rfl
set_option maxRecDepth 100000 in
theorem mw_2581 : (.code y_Tx_node1 b_Tx_node1 2 (some .int) : Cond) ∈ lw_gd := tg_11 (i := 181) rfl rfl
set_option maxRecDepth 100000 in
theorem mw_2582 : (.methodLink "BreweryHouseModel" 505 y_Mo_lay : Cond) ∈ lw_gd := tg_11 (i := 182) rfl rfl
set_option maxRecDepth 100000 in
theorem mw_2584 : (.instanceMethod y_Mo_lay : Cond) ∈ lw_gd := tg_11 (i := 184) rfl rfl
set_option maxRecDepth 100000 in
theorem mw_2585 : (.code y_Mo_lay b_Mo_lay 6 (some .int) : Cond) ∈ lw_gd := tg_11 (i := 185) rfl rfl
set_option maxRecDepth 100000 in
theorem mw_2588 : (.instanceMethod y_Tx_kid : Cond) ∈ lw_gd := tg_11 (i := 188) rfl rfl
set_option maxRecDepth 100000 in
theorem mw_2589 : (.code y_Tx_kid b_Tx_kid 3 (some .int) : Cond) ∈ lw_gd := tg_11 (i := 189) rfl rfl
set_option maxRecDepth 100000 in
theorem mw_2590 : (.methodLink "BreweryHouseModel$Text" 305 y_Tx_node1 : Cond) ∈ lw_gd := tg_11 (i := 190) rfl rfl
set_option maxRecDepth 100000 in
theorem mw_2591 : (.methodLink "BreweryHouseModel" 508 y_Mo_kids : Cond) ∈ lw_gd := tg_11 (i := 191) rfl rfl
set_option maxRecDepth 100000 in
theorem mw_2593 : (.instanceMethod y_Mo_kids : Cond) ∈ lw_gd := tg_11 (i := 193) rfl rfl
set_option maxRecDepth 100000 in
theorem mw_2594 : (.code y_Mo_kids b_Mo_kids 2 (some .int) : Cond) ∈ lw_gd := tg_11 (i := 194) rfl rfl
set_option maxRecDepth 100000 in
theorem mw_2595 : (.methodLink "BreweryHouseModel" 511 y_Mo_hang : Cond) ∈ lw_gd := tg_11 (i := 195) rfl rfl
set_option maxRecDepth 100000 in
theorem mw_2597 : (.instanceMethod y_Mo_hang : Cond) ∈ lw_gd := tg_11 (i := 197) rfl rfl
set_option maxRecDepth 100000 in
theorem mw_2598 : (.code y_Mo_hang b_Mo_hang 4 (some .int) : Cond) ∈ lw_gd := tg_11 (i := 198) rfl rfl
set_option maxRecDepth 100000 in
theorem mw_2603 : (.methodLink "BreweryHouseModel" 560 y_Mo_senseAll : Cond) ∈ lw_gd := tg_11 (i := 203) rfl rfl
set_option maxRecDepth 100000 in
theorem mw_2605 : (.instanceMethod y_Mo_senseAll : Cond) ∈ lw_gd := tg_11 (i := 205) rfl rfl
set_option maxRecDepth 100000 in
theorem mw_2606 : (.code y_Mo_senseAll b_Mo_senseAll 5 none : Cond) ∈ lw_gd := tg_11 (i := 206) rfl rfl
set_option maxRecDepth 100000 in
theorem mw_2607 : (.methodLink "BreweryHouseModel" 458 y_Mo_sensed : Cond) ∈ lw_gd := tg_11 (i := 207) rfl rfl
set_option maxRecDepth 100000 in
theorem mw_2609 : (.instanceMethod y_Mo_sensed : Cond) ∈ lw_gd := tg_11 (i := 209) rfl rfl
set_option maxRecDepth 100000 in
theorem mw_2610 : (.code y_Mo_sensed b_Mo_sensed 3 (some .long) : Cond) ∈ lw_gd := tg_11 (i := 210) rfl rfl
set_option maxRecDepth 100000 in
theorem mw_2611 : (.constantLong "BreweryHouseModel" 454 1000 : Cond) ∈ lw_gd := tg_11 (i := 211) rfl rfl
set_option maxRecDepth 100000 in
theorem mw_2612 : (.constantLong "BreweryHouseModel" 456 (-1) : Cond) ∈ lw_gd := tg_11 (i := 212) rfl rfl
set_option maxRecDepth 100000 in
theorem mw_2613 : (.methodLink "BreweryHouseModel" 563 y_Mr_tick : Cond) ∈ lw_gd := tg_11 (i := 213) rfl rfl
set_option maxRecDepth 100000 in
theorem mw_2614 : (.instanceMethod y_Mr_tick : Cond) ∈ lw_gd := tg_11 (i := 214) rfl rfl
set_option maxRecDepth 100000 in
theorem mw_2615 : (.selects "BreweryHouseModel$Rows" y_Mr_tick y_Mr_tick : Cond) ∈ lw_gd := tg_11 (i := 215) rfl rfl
set_option maxRecDepth 100000 in
theorem mw_2616 : (.code y_Mr_tick b_Mr_tick 4 (some .boolean) : Cond) ∈ lw_gd := tg_11 (i := 216) rfl rfl
set_option maxRecDepth 100000 in
theorem mw_2617 : (.constant "BreweryHouseModel$Rows" 142 100000 : Cond) ∈ lw_gd := tg_11 (i := 217) rfl rfl
set_option maxRecDepth 100000 in
theorem mw_2618 : (.constant "BreweryHouseModel$Rows" 146 1000000 : Cond) ∈ lw_gd := tg_11 (i := 218) rfl rfl
set_option maxRecDepth 100000 in
theorem mw_2619 : (.methodLink "BreweryHouseModel" 566 y_Mo_walk : Cond) ∈ lw_gd := tg_11 (i := 219) rfl rfl
set_option maxRecDepth 100000 in
theorem mw_2621 : (.instanceMethod y_Mo_walk : Cond) ∈ lw_gd := tg_11 (i := 221) rfl rfl
set_option maxRecDepth 100000 in
theorem mw_2622 : (.code y_Mo_walk b_Mo_walk 2 none : Cond) ∈ lw_gd := tg_11 (i := 222) rfl rfl
set_option maxRecDepth 100000 in
theorem mw_2623 : (.methodLink "BreweryHouseModel" 557 y_Mo_limits : Cond) ∈ lw_gd := tg_11 (i := 223) rfl rfl
set_option maxRecDepth 100000 in
theorem mw_2625 : (.instanceMethod y_Mo_limits : Cond) ∈ lw_gd := tg_11 (i := 225) rfl rfl
set_option maxRecDepth 100000 in
theorem mw_2626 : (.code y_Mo_limits b_Mo_limits 5 (some .boolean) : Cond) ∈ lw_gd := tg_11 (i := 226) rfl rfl
set_option maxRecDepth 100000 in
theorem mw_2627 : (.methodLink "BreweryHouseModel" 526 y_Mo_kind : Cond) ∈ lw_gd := tg_11 (i := 227) rfl rfl
set_option maxRecDepth 100000 in
theorem mw_2629 : (.instanceMethod y_Mo_kind : Cond) ∈ lw_gd := tg_11 (i := 229) rfl rfl
set_option maxRecDepth 100000 in
theorem mw_2630 : (.code y_Mo_kind b_Mo_kind 2 (some .int) : Cond) ∈ lw_gd := tg_11 (i := 230) rfl rfl
set_option maxRecDepth 100000 in
theorem mw_2631 : (.methodLink "BreweryHouseModel" 523 y_Mo_reckon : Cond) ∈ lw_gd := tg_11 (i := 231) rfl rfl
set_option maxRecDepth 100000 in
theorem mw_2633 : (.instanceMethod y_Mo_reckon : Cond) ∈ lw_gd := tg_11 (i := 233) rfl rfl
set_option maxRecDepth 100000 in
theorem mw_2634 : (.code y_Mo_reckon b_Mo_reckon 7 (some .long) : Cond) ∈ lw_gd := tg_11 (i := 234) rfl rfl
set_option maxRecDepth 100000 in
theorem mw_2635 : (.methodLink "BreweryHouseModel" 535 y_Mo_isBad : Cond) ∈ lw_gd := tg_11 (i := 235) rfl rfl
set_option maxRecDepth 100000 in
theorem mw_2637 : (.instanceMethod y_Mo_isBad : Cond) ∈ lw_gd := tg_11 (i := 237) rfl rfl
set_option maxRecDepth 100000 in
theorem mw_2638 : (.code y_Mo_isBad b_Mo_isBad 1 (some .boolean) : Cond) ∈ lw_gd := tg_11 (i := 238) rfl rfl
set_option maxRecDepth 100000 in
theorem mw_2639 : (.methodLink "BreweryHouseModel" 545 y_Mo_go : Cond) ∈ lw_gd := tg_11 (i := 239) rfl rfl
set_option maxRecDepth 100000 in
theorem mw_2641 : (.instanceMethod y_Mo_go : Cond) ∈ lw_gd := tg_12 (i := 1) rfl rfl
set_option maxRecDepth 100000 in
theorem mw_2642 : (.code y_Mo_go b_Mo_go 3 (some .int) : Cond) ∈ lw_gd := tg_12 (i := 2) rfl rfl
set_option maxRecDepth 100000 in
theorem mw_2643 : (.methodLink "BreweryHouseModel" 542 y_Mo_begin : Cond) ∈ lw_gd := tg_12 (i := 3) rfl rfl
set_option maxRecDepth 100000 in
theorem mw_2645 : (.instanceMethod y_Mo_begin : Cond) ∈ lw_gd := tg_12 (i := 5) rfl rfl
set_option maxRecDepth 100000 in
theorem mw_2646 : (.code y_Mo_begin b_Mo_begin 12 (some .boolean) : Cond) ∈ lw_gd := tg_12 (i := 6) rfl rfl
set_option maxRecDepth 100000 in
theorem mw_2647 : (.methodLink "BreweryHouseModel" 548 y_Mo_goUntil : Cond) ∈ lw_gd := tg_12 (i := 7) rfl rfl
set_option maxRecDepth 100000 in
theorem mw_2649 : (.instanceMethod y_Mo_goUntil : Cond) ∈ lw_gd := tg_12 (i := 9) rfl rfl
set_option maxRecDepth 100000 in
theorem mw_2650 : (.code y_Mo_goUntil b_Mo_goUntil 4 (some .int) : Cond) ∈ lw_gd := tg_12 (i := 10) rfl rfl
set_option maxRecDepth 100000 in
theorem mw_2651 : (.methodLink "BreweryHouseModel" 551 y_Mo_goPar : Cond) ∈ lw_gd := tg_12 (i := 11) rfl rfl
set_option maxRecDepth 100000 in
theorem mw_2653 : (.instanceMethod y_Mo_goPar : Cond) ∈ lw_gd := tg_12 (i := 13) rfl rfl
set_option maxRecDepth 100000 in
theorem mw_2654 : (.code y_Mo_goPar b_Mo_goPar 5 (some .int) : Cond) ∈ lw_gd := tg_12 (i := 14) rfl rfl
set_option maxRecDepth 100000 in
theorem mw_2655 : (.methodLink "BreweryHouseModel" 554 y_Mo_goRamp : Cond) ∈ lw_gd := tg_12 (i := 15) rfl rfl
set_option maxRecDepth 100000 in
theorem mw_2657 : (.instanceMethod y_Mo_goRamp : Cond) ∈ lw_gd := tg_12 (i := 17) rfl rfl
set_option maxRecDepth 100000 in
theorem mw_2658 : (.code y_Mo_goRamp b_Mo_goRamp 9 (some .int) : Cond) ∈ lw_gd := tg_12 (i := 18) rfl rfl
set_option maxRecDepth 100000 in
theorem mw_2659 : (.methodLink "BreweryHouseModel" 569 y_Mo_flow : Cond) ∈ lw_gd := tg_12 (i := 19) rfl rfl
set_option maxRecDepth 100000 in
theorem mw_2661 : (.instanceMethod y_Mo_flow : Cond) ∈ lw_gd := tg_12 (i := 21) rfl rfl
set_option maxRecDepth 100000 in
theorem mw_2662 : (.code y_Mo_flow b_Mo_flow 14 none : Cond) ∈ lw_gd := tg_12 (i := 22) rfl rfl
set_option maxRecDepth 100000 in
theorem mw_2663 : (.methodLink "BreweryHouseModel" 406 y_Mo_come : Cond) ∈ lw_gd := tg_12 (i := 23) rfl rfl
set_option maxRecDepth 100000 in
theorem mw_2665 : (.instanceMethod y_Mo_come : Cond) ∈ lw_gd := tg_12 (i := 25) rfl rfl
set_option maxRecDepth 100000 in
theorem mw_2666 : (.code y_Mo_come b_Mo_come 3 none : Cond) ∈ lw_gd := tg_12 (i := 26) rfl rfl
set_option maxRecDepth 100000 in
theorem mw_2671 : (.methodLink "BreweryHouseModel" 572 y_Mo_stillAt : Cond) ∈ lw_gd := tg_12 (i := 31) rfl rfl
set_option maxRecDepth 100000 in
theorem mw_2673 : (.instanceMethod y_Mo_stillAt : Cond) ∈ lw_gd := tg_12 (i := 33) rfl rfl
set_option maxRecDepth 100000 in
theorem mw_2674 : (.code y_Mo_stillAt b_Mo_stillAt 6 (some .int) : Cond) ∈ lw_gd := tg_12 (i := 34) rfl rfl
set_option maxRecDepth 100000 in
theorem nw_1109 : (.fieldLinkNest "BreweryHouse$Safety" 78 "BreweryHouse" "PASSES" "[I" "BreweryHouse" : Cond) ∈ lw_nest := tn_5 (i := 149) rfl rfl
set_option maxRecDepth 100000 in
theorem nw_1592 : (.fieldLinkNest "BreweryHouseModel" 448 "BreweryHouseModel$Text" "half" "I" "BreweryHouseModel" : Cond) ∈ lw_nest := tn_7 (i := 152) rfl rfl
set_option maxRecDepth 100000 in
theorem nw_1595 : (.fieldLinkNest "BreweryHouseModel" 484 "BreweryHouseModel$Text" "whats" "[I" "BreweryHouseModel" : Cond) ∈ lw_nest := tn_7 (i := 155) rfl rfl
set_option maxRecDepth 100000 in
theorem nw_1597 : (.fieldLinkNest "BreweryHouseModel" 499 "BreweryHouseModel$Text" "numbers" "[J" "BreweryHouseModel" : Cond) ∈ lw_nest := tn_7 (i := 157) rfl rfl
set_option maxRecDepth 100000 in
theorem nw_1602 : (.fieldLinkNest "BreweryHouseModel" 490 "BreweryHouseModel$Text" "kidCount" "[I" "BreweryHouseModel" : Cond) ∈ lw_nest := tn_7 (i := 162) rfl rfl
set_option maxRecDepth 100000 in
theorem nw_1606 : (.fieldLinkNest "BreweryHouseModel" 517 "BreweryHouseModel$Text" "tops" "[I" "BreweryHouseModel" : Cond) ∈ lw_nest := tn_7 (i := 166) rfl rfl
set_option maxRecDepth 100000 in
theorem nw_1612 : (.fieldLinkNest "BreweryHouseModel" 445 "BreweryHouseModel$Text" "roles" "[I" "BreweryHouseModel" : Cond) ∈ lw_nest := tn_7 (i := 172) rfl rfl
set_option maxRecDepth 100000 in
theorem nw_1615 : (.fieldLinkNest "BreweryHouseModel" 496 "BreweryHouseModel$Text" "stepNodes" "[I" "BreweryHouseModel" : Cond) ∈ lw_nest := tn_7 (i := 175) rfl rfl
set_option maxRecDepth 100000 in
theorem nw_1618 : (.fieldLinkNest "BreweryHouseModel" 514 "BreweryHouseModel$Text" "topCount" "I" "BreweryHouseModel" : Cond) ∈ lw_nest := tn_7 (i := 178) rfl rfl
set_option maxRecDepth 100000 in
theorem nw_1620 : (.fieldLinkNest "BreweryHouseModel" 442 "BreweryHouseModel$Text" "nameCount" "I" "BreweryHouseModel" : Cond) ∈ lw_nest := tn_7 (i := 180) rfl rfl
set_option maxRecDepth 100000 in
theorem nw_1733 : (.fieldLinkNest "BreweryHouseModel" 470 "BreweryHouseModel$Rows" "rows" "I" "BreweryHouseModel" : Cond) ∈ lw_nest := tn_8 (i := 53) rfl rfl
set_option maxRecDepth 100000 in
theorem nw_1735 : (.fieldLinkNest "BreweryHouseModel" 473 "BreweryHouseModel$Rows" "counts" "[I" "BreweryHouseModel" : Cond) ∈ lw_nest := tn_8 (i := 55) rfl rfl
set_option maxRecDepth 100000 in
theorem nw_1737 : (.fieldLinkNest "BreweryHouseModel" 476 "BreweryHouseModel$Rows" "latched" "[Z" "BreweryHouseModel" : Cond) ∈ lw_nest := tn_8 (i := 57) rfl rfl
set_option maxRecDepth 100000 in
theorem nw_1739 : (.fieldLinkNest "BreweryHouseModel" 479 "BreweryHouseModel$Rows" "passes" "[I" "BreweryHouseModel" : Cond) ∈ lw_nest := tn_8 (i := 59) rfl rfl
set_option maxRecDepth 100000 in
theorem nw_1741 : (.fieldLinkNest "BreweryHouseModel" 462 "BreweryHouseModel$Rows" "state" "I" "BreweryHouseModel" : Cond) ∈ lw_nest := tn_8 (i := 61) rfl rfl
set_option maxRecDepth 100000 in
theorem nw_2573 : (.methodLinkNest "BreweryHouseModel" 481 y_Mr_isOn "BreweryHouseModel" : Cond) ∈ lw_nest := tn_11 (i := 173) rfl rfl
set_option maxRecDepth 100000 in
theorem nw_2578 : (.methodLinkNest "BreweryHouseModel" 487 y_Tx_node1 "BreweryHouseModel" : Cond) ∈ lw_nest := tn_11 (i := 178) rfl rfl
set_option maxRecDepth 100000 in
theorem nw_2586 : (.methodLinkNest "BreweryHouseModel" 502 y_Tx_kid "BreweryHouseModel" : Cond) ∈ lw_nest := tn_11 (i := 186) rfl rfl
set_option maxRecDepth 100000 in
theorem nw_809 : (.fieldLinkNest "BreweryHouse$Plant" 114 "BreweryHouse" "PORT_COUNT" "[I" "BreweryHouse" : Cond) ∈ lw_nest := tn_4 (i := 89) rfl rfl
theorem sl_0 : (.selects "BreweryHouse$Plant" y_Pl_readLine y_Pl_readLine : Cond) ∈ lw_gd := List.mem_filter.mpr ⟨List.mem_append_left _ (List.mem_of_getElem? (i := 0) (by decide +kernel)), by decide +kernel⟩
theorem sl_1 : (.selects "BreweryHouse$Plant" y_Pl_takes y_Pl_takes : Cond) ∈ lw_gd := List.mem_filter.mpr ⟨List.mem_append_left _ (List.mem_of_getElem? (i := 1) (by decide +kernel)), by decide +kernel⟩
theorem sl_10 : (.selects "BreweryHouse$Rows" y_Ro_readRow y_Ro_readRow : Cond) ∈ lw_gd := List.mem_filter.mpr ⟨List.mem_append_left _ (List.mem_of_getElem? (i := 10) (by decide +kernel)), by decide +kernel⟩
theorem sl_100 : (.selects "BreweryHouseModel$Rows" y_Mr_at y_Mr_at : Cond) ∈ lw_gd := List.mem_filter.mpr ⟨List.mem_append_left _ (List.mem_of_getElem? (i := 100) (by decide +kernel)), by decide +kernel⟩
theorem sl_101 : (.selects "BreweryHouseModel$Rows" y_Mr_readRow y_Mr_readRow : Cond) ∈ lw_gd := List.mem_filter.mpr ⟨List.mem_append_left _ (List.mem_of_getElem? (i := 101) (by decide +kernel)), by decide +kernel⟩
theorem sl_102 : (.selects "BreweryHouseModel$Rows" y_Mr_act0 y_Mr_act0 : Cond) ∈ lw_gd := List.mem_filter.mpr ⟨List.mem_append_left _ (List.mem_of_getElem? (i := 102) (by decide +kernel)), by decide +kernel⟩
theorem sl_103 : (.selects "BreweryHouseModel$Rows" y_Mr_number y_Mr_number : Cond) ∈ lw_gd := List.mem_filter.mpr ⟨List.mem_append_left _ (List.mem_of_getElem? (i := 103) (by decide +kernel)), by decide +kernel⟩
theorem sl_104 : (.selects "BreweryHouseModel$Rows" y_Mr_or y_Mr_or : Cond) ∈ lw_gd := List.mem_filter.mpr ⟨List.mem_append_left _ (List.mem_of_getElem? (i := 104) (by decide +kernel)), by decide +kernel⟩
theorem sl_105 : (.selects "BreweryHouseModel$Rows" y_Mr_and y_Mr_and : Cond) ∈ lw_gd := List.mem_filter.mpr ⟨List.mem_append_left _ (List.mem_of_getElem? (i := 105) (by decide +kernel)), by decide +kernel⟩
theorem sl_106 : (.selects "BreweryHouseModel$Rows" y_Mr_part y_Mr_part : Cond) ∈ lw_gd := List.mem_filter.mpr ⟨List.mem_append_left _ (List.mem_of_getElem? (i := 106) (by decide +kernel)), by decide +kernel⟩
theorem sl_107 : (.selects "BreweryHouseModel$Rows" y_Mr_isOne y_Mr_isOne : Cond) ∈ lw_gd := List.mem_filter.mpr ⟨List.mem_append_left _ (List.mem_of_getElem? (i := 107) (by decide +kernel)), by decide +kernel⟩
theorem sl_108 : (.selects "BreweryHouseModel$Rows" y_Mr_node y_Mr_node : Cond) ∈ lw_gd := List.mem_filter.mpr ⟨List.mem_append_left _ (List.mem_of_getElem? (i := 108) (by decide +kernel)), by decide +kernel⟩
theorem sl_109 : (.selects "BreweryHouseModel$Rows" y_Mr_conditionWord y_Mr_conditionWord : Cond) ∈ lw_gd := List.mem_filter.mpr ⟨List.mem_append_left _ (List.mem_of_getElem? (i := 109) (by decide +kernel)), by decide +kernel⟩
theorem sl_11 : (.selects "BreweryHouse$Rows" y_Ro_fail y_Ro_fail : Cond) ∈ lw_gd := List.mem_filter.mpr ⟨List.mem_append_left _ (List.mem_of_getElem? (i := 11) (by decide +kernel)), by decide +kernel⟩
theorem sl_110 : (.selects "BreweryHouseModel$Text" y_Tx_program y_Tx_program : Cond) ∈ lw_gd := List.mem_filter.mpr ⟨List.mem_append_left _ (List.mem_of_getElem? (i := 110) (by decide +kernel)), by decide +kernel⟩
theorem sl_111 : (.selects "BreweryHouseModel$Text" y_Tx_go y_Tx_go : Cond) ∈ lw_gd := List.mem_filter.mpr ⟨List.mem_append_left _ (List.mem_of_getElem? (i := 111) (by decide +kernel)), by decide +kernel⟩
theorem sl_112 : (.selects "BreweryHouseModel$Text" y_Tx_at y_Tx_at : Cond) ∈ lw_gd := List.mem_filter.mpr ⟨List.mem_append_left _ (List.mem_of_getElem? (i := 112) (by decide +kernel)), by decide +kernel⟩
theorem sl_113 : (.selects "BreweryHouseModel$Text" y_Tx_digits y_Tx_digits : Cond) ∈ lw_gd := List.mem_filter.mpr ⟨List.mem_append_left _ (List.mem_of_getElem? (i := 113) (by decide +kernel)), by decide +kernel⟩
theorem sl_114 : (.selects "BreweryHouseModel$Text" y_Tx_meaning y_Tx_meaning : Cond) ∈ lw_gd := List.mem_filter.mpr ⟨List.mem_append_left _ (List.mem_of_getElem? (i := 114) (by decide +kernel)), by decide +kernel⟩
theorem sl_115 : (.selects "BreweryHouseModel$Text" y_Tx_is y_Tx_is : Cond) ∈ lw_gd := List.mem_filter.mpr ⟨List.mem_append_left _ (List.mem_of_getElem? (i := 115) (by decide +kernel)), by decide +kernel⟩
theorem sl_116 : (.selects "BreweryHouseModel$Text" y_Tx_isWord y_Tx_isWord : Cond) ∈ lw_gd := List.mem_filter.mpr ⟨List.mem_append_left _ (List.mem_of_getElem? (i := 116) (by decide +kernel)), by decide +kernel⟩
theorem sl_117 : (.selects "BreweryHouseModel$Text" y_Tx_declaration y_Tx_declaration : Cond) ∈ lw_gd := List.mem_filter.mpr ⟨List.mem_append_left _ (List.mem_of_getElem? (i := 117) (by decide +kernel)), by decide +kernel⟩
theorem sl_118 : (.selects "BreweryHouseModel$Text" y_Tx_tell y_Tx_tell : Cond) ∈ lw_gd := List.mem_filter.mpr ⟨List.mem_append_left _ (List.mem_of_getElem? (i := 118) (by decide +kernel)), by decide +kernel⟩
theorem sl_119 : (.selects "BreweryHouseModel$Text" y_Tx_nameOf y_Tx_nameOf : Cond) ∈ lw_gd := List.mem_filter.mpr ⟨List.mem_append_left _ (List.mem_of_getElem? (i := 119) (by decide +kernel)), by decide +kernel⟩
theorem sl_12 : (.selects "BreweryHouse$Rows" y_Ro_takes y_Ro_takes : Cond) ∈ lw_gd := List.mem_filter.mpr ⟨List.mem_append_left _ (List.mem_of_getElem? (i := 12) (by decide +kernel)), by decide +kernel⟩
theorem sl_120 : (.selects "BreweryHouseModel$Text" y_Tx_bad y_Tx_bad : Cond) ∈ lw_gd := List.mem_filter.mpr ⟨List.mem_append_left _ (List.mem_of_getElem? (i := 120) (by decide +kernel)), by decide +kernel⟩
theorem sl_121 : (.selects "BreweryHouseModel$Text" y_Tx_unitWord y_Tx_unitWord : Cond) ∈ lw_gd := List.mem_filter.mpr ⟨List.mem_append_left _ (List.mem_of_getElem? (i := 121) (by decide +kernel)), by decide +kernel⟩
theorem sl_122 : (.selects "BreweryHouseModel$Text" y_Tx_over y_Tx_over : Cond) ∈ lw_gd := List.mem_filter.mpr ⟨List.mem_append_left _ (List.mem_of_getElem? (i := 122) (by decide +kernel)), by decide +kernel⟩
theorem sl_123 : (.selects "BreweryHouseModel$Text" y_Tx_block y_Tx_block : Cond) ∈ lw_gd := List.mem_filter.mpr ⟨List.mem_append_left _ (List.mem_of_getElem? (i := 123) (by decide +kernel)), by decide +kernel⟩
theorem sl_124 : (.selects "BreweryHouseModel$Text" y_Tx_statement y_Tx_statement : Cond) ∈ lw_gd := List.mem_filter.mpr ⟨List.mem_append_left _ (List.mem_of_getElem? (i := 124) (by decide +kernel)), by decide +kernel⟩
theorem sl_125 : (.selects "BreweryHouseModel$Text" y_Tx_known y_Tx_known : Cond) ∈ lw_gd := List.mem_filter.mpr ⟨List.mem_append_left _ (List.mem_of_getElem? (i := 125) (by decide +kernel)), by decide +kernel⟩
theorem sl_126 : (.selects "BreweryHouseModel$Text" y_Tx_sumOf y_Tx_sumOf : Cond) ∈ lw_gd := List.mem_filter.mpr ⟨List.mem_append_left _ (List.mem_of_getElem? (i := 126) (by decide +kernel)), by decide +kernel⟩
theorem sl_127 : (.selects "BreweryHouseModel$Text" y_Tx_sum y_Tx_sum : Cond) ∈ lw_gd := List.mem_filter.mpr ⟨List.mem_append_left _ (List.mem_of_getElem? (i := 127) (by decide +kernel)), by decide +kernel⟩
theorem sl_128 : (.selects "BreweryHouseModel$Text" y_Tx_product y_Tx_product : Cond) ∈ lw_gd := List.mem_filter.mpr ⟨List.mem_append_left _ (List.mem_of_getElem? (i := 128) (by decide +kernel)), by decide +kernel⟩
theorem sl_129 : (.selects "BreweryHouseModel$Text" y_Tx_factor y_Tx_factor : Cond) ∈ lw_gd := List.mem_filter.mpr ⟨List.mem_append_left _ (List.mem_of_getElem? (i := 129) (by decide +kernel)), by decide +kernel⟩
theorem sl_13 : (.selects "BreweryHouse$Rows" y_Ro_is y_Ro_is : Cond) ∈ lw_gd := List.mem_filter.mpr ⟨List.mem_append_left _ (List.mem_of_getElem? (i := 13) (by decide +kernel)), by decide +kernel⟩
theorem sl_130 : (.selects "BreweryHouseModel$Text" y_Tx_numberNode y_Tx_numberNode : Cond) ∈ lw_gd := List.mem_filter.mpr ⟨List.mem_append_left _ (List.mem_of_getElem? (i := 130) (by decide +kernel)), by decide +kernel⟩
theorem sl_131 : (.selects "BreweryHouseModel$Text" y_Tx_node0 y_Tx_node0 : Cond) ∈ lw_gd := List.mem_filter.mpr ⟨List.mem_append_left _ (List.mem_of_getElem? (i := 131) (by decide +kernel)), by decide +kernel⟩
theorem sl_132 : (.selects "BreweryHouseModel$Text" y_Tx_base y_Tx_base : Cond) ∈ lw_gd := List.mem_filter.mpr ⟨List.mem_append_left _ (List.mem_of_getElem? (i := 132) (by decide +kernel)), by decide +kernel⟩
theorem sl_133 : (.selects "BreweryHouseModel$Text" y_Tx_push y_Tx_push : Cond) ∈ lw_gd := List.mem_filter.mpr ⟨List.mem_append_left _ (List.mem_of_getElem? (i := 133) (by decide +kernel)), by decide +kernel⟩
theorem sl_134 : (.selects "BreweryHouseModel$Text" y_Tx_unitIn y_Tx_unitIn : Cond) ∈ lw_gd := List.mem_filter.mpr ⟨List.mem_append_left _ (List.mem_of_getElem? (i := 134) (by decide +kernel)), by decide +kernel⟩
theorem sl_135 : (.selects "BreweryHouseModel$Text" y_Tx_two y_Tx_two : Cond) ∈ lw_gd := List.mem_filter.mpr ⟨List.mem_append_left _ (List.mem_of_getElem? (i := 135) (by decide +kernel)), by decide +kernel⟩
theorem sl_136 : (.selects "BreweryHouseModel$Text" y_Tx_test y_Tx_test : Cond) ∈ lw_gd := List.mem_filter.mpr ⟨List.mem_append_left _ (List.mem_of_getElem? (i := 136) (by decide +kernel)), by decide +kernel⟩
theorem sl_137 : (.selects "BreweryHouseModel$Text" y_Tx_pushed y_Tx_pushed : Cond) ∈ lw_gd := List.mem_filter.mpr ⟨List.mem_append_left _ (List.mem_of_getElem? (i := 137) (by decide +kernel)), by decide +kernel⟩
theorem sl_138 : (.selects "BreweryHouseModel$Text" y_Tx_isSmall y_Tx_isSmall : Cond) ∈ lw_gd := List.mem_filter.mpr ⟨List.mem_append_left _ (List.mem_of_getElem? (i := 138) (by decide +kernel)), by decide +kernel⟩
theorem sl_139 : (.selects "BreweryHouseModel" y_Mo_closeAll y_Mo_closeAll : Cond) ∈ lw_gd := List.mem_filter.mpr ⟨List.mem_append_left _ (List.mem_of_getElem? (i := 139) (by decide +kernel)), by decide +kernel⟩
theorem sl_14 : (.selects "BreweryHouse$Rows" y_Ro_readActs y_Ro_readActs : Cond) ∈ lw_gd := List.mem_filter.mpr ⟨List.mem_append_left _ (List.mem_of_getElem? (i := 14) (by decide +kernel)), by decide +kernel⟩
theorem sl_140 : (.selects "BreweryHouseModel" y_Mo_close y_Mo_close : Cond) ∈ lw_gd := List.mem_filter.mpr ⟨List.mem_append_left _ (List.mem_of_getElem? (i := 140) (by decide +kernel)), by decide +kernel⟩
theorem sl_141 : (.selects "BreweryHouseModel" y_Mo_held y_Mo_held : Cond) ∈ lw_gd := List.mem_filter.mpr ⟨List.mem_append_left _ (List.mem_of_getElem? (i := 141) (by decide +kernel)), by decide +kernel⟩
theorem sl_142 : (.selects "BreweryHouseModel" y_Mo_say y_Mo_say : Cond) ∈ lw_gd := List.mem_filter.mpr ⟨List.mem_append_left _ (List.mem_of_getElem? (i := 142) (by decide +kernel)), by decide +kernel⟩
theorem sl_143 : (.selects "BreweryHouseModel" y_Mo_letter y_Mo_letter : Cond) ∈ lw_gd := List.mem_filter.mpr ⟨List.mem_append_left _ (List.mem_of_getElem? (i := 143) (by decide +kernel)), by decide +kernel⟩
theorem sl_144 : (.selects "BreweryHouseModel" y_Mo_sayNumber y_Mo_sayNumber : Cond) ∈ lw_gd := List.mem_filter.mpr ⟨List.mem_append_left _ (List.mem_of_getElem? (i := 144) (by decide +kernel)), by decide +kernel⟩
theorem sl_145 : (.selects "BreweryHouseModel" y_Mo_look y_Mo_look : Cond) ∈ lw_gd := List.mem_filter.mpr ⟨List.mem_append_left _ (List.mem_of_getElem? (i := 145) (by decide +kernel)), by decide +kernel⟩
theorem sl_146 : (.selects "BreweryHouseModel" y_Mo_liquidIn y_Mo_liquidIn : Cond) ∈ lw_gd := List.mem_filter.mpr ⟨List.mem_append_left _ (List.mem_of_getElem? (i := 146) (by decide +kernel)), by decide +kernel⟩
theorem sl_147 : (.selects "BreweryHouseModel" y_Mo_carry y_Mo_carry : Cond) ∈ lw_gd := List.mem_filter.mpr ⟨List.mem_append_left _ (List.mem_of_getElem? (i := 147) (by decide +kernel)), by decide +kernel⟩
theorem sl_148 : (.selects "BreweryHouseModel" y_Mo_isSafe y_Mo_isSafe : Cond) ∈ lw_gd := List.mem_filter.mpr ⟨List.mem_append_left _ (List.mem_of_getElem? (i := 148) (by decide +kernel)), by decide +kernel⟩
theorem sl_149 : (.selects "BreweryHouseModel" y_Mo_isCalm y_Mo_isCalm : Cond) ∈ lw_gd := List.mem_filter.mpr ⟨List.mem_append_left _ (List.mem_of_getElem? (i := 149) (by decide +kernel)), by decide +kernel⟩
theorem sl_15 : (.selects "BreweryHouse$Rows" y_Ro_numberBehind y_Ro_numberBehind : Cond) ∈ lw_gd := List.mem_filter.mpr ⟨List.mem_append_left _ (List.mem_of_getElem? (i := 15) (by decide +kernel)), by decide +kernel⟩
theorem sl_150 : (.selects "BreweryHouseModel" y_Mo_join y_Mo_join : Cond) ∈ lw_gd := List.mem_filter.mpr ⟨List.mem_append_left _ (List.mem_of_getElem? (i := 150) (by decide +kernel)), by decide +kernel⟩
theorem sl_151 : (.selects "BreweryHouseModel" y_Mo_flood y_Mo_flood : Cond) ∈ lw_gd := List.mem_filter.mpr ⟨List.mem_append_left _ (List.mem_of_getElem? (i := 151) (by decide +kernel)), by decide +kernel⟩
theorem sl_152 : (.selects "BreweryHouseModel" y_Mo_mayMeet y_Mo_mayMeet : Cond) ∈ lw_gd := List.mem_filter.mpr ⟨List.mem_append_left _ (List.mem_of_getElem? (i := 152) (by decide +kernel)), by decide +kernel⟩
theorem sl_153 : (.selects "BreweryHouseModel" y_Mo_isValve y_Mo_isValve : Cond) ∈ lw_gd := List.mem_filter.mpr ⟨List.mem_append_left _ (List.mem_of_getElem? (i := 153) (by decide +kernel)), by decide +kernel⟩
theorem sl_154 : (.selects "BreweryHouseModel" y_Mo_isThing y_Mo_isThing : Cond) ∈ lw_gd := List.mem_filter.mpr ⟨List.mem_append_left _ (List.mem_of_getElem? (i := 154) (by decide +kernel)), by decide +kernel⟩
theorem sl_155 : (.selects "BreweryHouseModel" y_Mo_holdsLiquid y_Mo_holdsLiquid : Cond) ∈ lw_gd := List.mem_filter.mpr ⟨List.mem_append_left _ (List.mem_of_getElem? (i := 155) (by decide +kernel)), by decide +kernel⟩
theorem sl_156 : (.selects "BreweryHouseModel" y_Mo_isTank y_Mo_isTank : Cond) ∈ lw_gd := List.mem_filter.mpr ⟨List.mem_append_left _ (List.mem_of_getElem? (i := 156) (by decide +kernel)), by decide +kernel⟩
theorem sl_157 : (.selects "BreweryHouseModel" y_Mo_isPipe y_Mo_isPipe : Cond) ∈ lw_gd := List.mem_filter.mpr ⟨List.mem_append_left _ (List.mem_of_getElem? (i := 157) (by decide +kernel)), by decide +kernel⟩
theorem sl_158 : (.selects "BreweryHouseModel" y_Mo_litresIn y_Mo_litresIn : Cond) ∈ lw_gd := List.mem_filter.mpr ⟨List.mem_append_left _ (List.mem_of_getElem? (i := 158) (by decide +kernel)), by decide +kernel⟩
theorem sl_159 : (.selects "BreweryHouseModel" y_Mo_level y_Mo_level : Cond) ∈ lw_gd := List.mem_filter.mpr ⟨List.mem_append_left _ (List.mem_of_getElem? (i := 159) (by decide +kernel)), by decide +kernel⟩
theorem sl_16 : (.selects "BreweryHouse$Rows" y_Ro_readOr y_Ro_readOr : Cond) ∈ lw_gd := List.mem_filter.mpr ⟨List.mem_append_left _ (List.mem_of_getElem? (i := 16) (by decide +kernel)), by decide +kernel⟩
theorem sl_160 : (.selects "BreweryHouseModel" y_Mo_mayCome y_Mo_mayCome : Cond) ∈ lw_gd := List.mem_filter.mpr ⟨List.mem_append_left _ (List.mem_of_getElem? (i := 160) (by decide +kernel)), by decide +kernel⟩
theorem sl_161 : (.selects "BreweryHouseModel" y_Mo_note y_Mo_note : Cond) ∈ lw_gd := List.mem_filter.mpr ⟨List.mem_append_left _ (List.mem_of_getElem? (i := 161) (by decide +kernel)), by decide +kernel⟩
theorem sl_162 : (.selects "BreweryHouseModel" y_Mo_perform y_Mo_perform : Cond) ∈ lw_gd := List.mem_filter.mpr ⟨List.mem_append_left _ (List.mem_of_getElem? (i := 162) (by decide +kernel)), by decide +kernel⟩
theorem sl_163 : (.selects "BreweryHouseModel$Rows" y_Mr_isOn y_Mr_isOn : Cond) ∈ lw_gd := List.mem_filter.mpr ⟨List.mem_append_left _ (List.mem_of_getElem? (i := 163) (by decide +kernel)), by decide +kernel⟩
theorem sl_164 : (.selects "BreweryHouseModel$Rows" y_Mr_value y_Mr_value : Cond) ∈ lw_gd := List.mem_filter.mpr ⟨List.mem_append_left _ (List.mem_of_getElem? (i := 164) (by decide +kernel)), by decide +kernel⟩
theorem sl_165 : (.selects "BreweryHouseModel$Rows" y_Mr_hasAct y_Mr_hasAct : Cond) ∈ lw_gd := List.mem_filter.mpr ⟨List.mem_append_left _ (List.mem_of_getElem? (i := 165) (by decide +kernel)), by decide +kernel⟩
theorem sl_166 : (.selects "BreweryHouseModel" y_Mo_open y_Mo_open : Cond) ∈ lw_gd := List.mem_filter.mpr ⟨List.mem_append_left _ (List.mem_of_getElem? (i := 166) (by decide +kernel)), by decide +kernel⟩
theorem sl_167 : (.selects "BreweryHouseModel" y_Mo_openWay y_Mo_openWay : Cond) ∈ lw_gd := List.mem_filter.mpr ⟨List.mem_append_left _ (List.mem_of_getElem? (i := 167) (by decide +kernel)), by decide +kernel⟩
theorem sl_168 : (.selects "BreweryHouseModel" y_Mo_find y_Mo_find : Cond) ∈ lw_gd := List.mem_filter.mpr ⟨List.mem_append_left _ (List.mem_of_getElem? (i := 168) (by decide +kernel)), by decide +kernel⟩
theorem sl_169 : (.selects "BreweryHouseModel" y_Mo_measure y_Mo_measure : Cond) ∈ lw_gd := List.mem_filter.mpr ⟨List.mem_append_left _ (List.mem_of_getElem? (i := 169) (by decide +kernel)), by decide +kernel⟩
theorem sl_17 : (.selects "BreweryHouse$Rows" y_Ro_readAnd y_Ro_readAnd : Cond) ∈ lw_gd := List.mem_filter.mpr ⟨List.mem_append_left _ (List.mem_of_getElem? (i := 17) (by decide +kernel)), by decide +kernel⟩
theorem sl_170 : (.selects "BreweryHouseModel" y_Mo_needOf y_Mo_needOf : Cond) ∈ lw_gd := List.mem_filter.mpr ⟨List.mem_append_left _ (List.mem_of_getElem? (i := 170) (by decide +kernel)), by decide +kernel⟩
theorem sl_171 : (.selects "BreweryHouseModel" y_Mo_isOnWay y_Mo_isOnWay : Cond) ∈ lw_gd := List.mem_filter.mpr ⟨List.mem_append_left _ (List.mem_of_getElem? (i := 171) (by decide +kernel)), by decide +kernel⟩
theorem sl_172 : (.selects "BreweryHouseModel" y_Mo_raise y_Mo_raise : Cond) ∈ lw_gd := List.mem_filter.mpr ⟨List.mem_append_left _ (List.mem_of_getElem? (i := 172) (by decide +kernel)), by decide +kernel⟩
theorem sl_173 : (.selects "BreweryHouseModel" y_Mo_isRole y_Mo_isRole : Cond) ∈ lw_gd := List.mem_filter.mpr ⟨List.mem_append_left _ (List.mem_of_getElem? (i := 173) (by decide +kernel)), by decide +kernel⟩
theorem sl_174 : (.selects "BreweryHouseModel$Rows" y_Mr_isRow y_Mr_isRow : Cond) ∈ lw_gd := List.mem_filter.mpr ⟨List.mem_append_left _ (List.mem_of_getElem? (i := 174) (by decide +kernel)), by decide +kernel⟩
theorem sl_175 : (.selects "BreweryHouseModel$Text" y_Tx_node1 y_Tx_node1 : Cond) ∈ lw_gd := List.mem_filter.mpr ⟨List.mem_append_left _ (List.mem_of_getElem? (i := 175) (by decide +kernel)), by decide +kernel⟩
theorem sl_176 : (.selects "BreweryHouseModel" y_Mo_lay y_Mo_lay : Cond) ∈ lw_gd := List.mem_filter.mpr ⟨List.mem_append_left _ (List.mem_of_getElem? (i := 176) (by decide +kernel)), by decide +kernel⟩
theorem sl_177 : (.selects "BreweryHouseModel$Text" y_Tx_kid y_Tx_kid : Cond) ∈ lw_gd := List.mem_filter.mpr ⟨List.mem_append_left _ (List.mem_of_getElem? (i := 177) (by decide +kernel)), by decide +kernel⟩
theorem sl_178 : (.selects "BreweryHouseModel" y_Mo_kids y_Mo_kids : Cond) ∈ lw_gd := List.mem_filter.mpr ⟨List.mem_append_left _ (List.mem_of_getElem? (i := 178) (by decide +kernel)), by decide +kernel⟩
theorem sl_179 : (.selects "BreweryHouseModel" y_Mo_hang y_Mo_hang : Cond) ∈ lw_gd := List.mem_filter.mpr ⟨List.mem_append_left _ (List.mem_of_getElem? (i := 179) (by decide +kernel)), by decide +kernel⟩
theorem sl_18 : (.selects "BreweryHouse$Rows" y_Ro_readPart y_Ro_readPart : Cond) ∈ lw_gd := List.mem_filter.mpr ⟨List.mem_append_left _ (List.mem_of_getElem? (i := 18) (by decide +kernel)), by decide +kernel⟩
theorem sl_180 : (.selects "BreweryHouseModel" y_Mo_senseAll y_Mo_senseAll : Cond) ∈ lw_gd := List.mem_filter.mpr ⟨List.mem_append_left _ (List.mem_of_getElem? (i := 180) (by decide +kernel)), by decide +kernel⟩
theorem sl_181 : (.selects "BreweryHouseModel" y_Mo_sensed y_Mo_sensed : Cond) ∈ lw_gd := List.mem_filter.mpr ⟨List.mem_append_left _ (List.mem_of_getElem? (i := 181) (by decide +kernel)), by decide +kernel⟩
theorem sl_182 : (.selects "BreweryHouseModel" y_Mo_walk y_Mo_walk : Cond) ∈ lw_gd := List.mem_filter.mpr ⟨List.mem_append_left _ (List.mem_of_getElem? (i := 182) (by decide +kernel)), by decide +kernel⟩
theorem sl_183 : (.selects "BreweryHouseModel" y_Mo_limits y_Mo_limits : Cond) ∈ lw_gd := List.mem_filter.mpr ⟨List.mem_append_left _ (List.mem_of_getElem? (i := 183) (by decide +kernel)), by decide +kernel⟩
theorem sl_184 : (.selects "BreweryHouseModel" y_Mo_kind y_Mo_kind : Cond) ∈ lw_gd := List.mem_filter.mpr ⟨List.mem_append_left _ (List.mem_of_getElem? (i := 184) (by decide +kernel)), by decide +kernel⟩
theorem sl_185 : (.selects "BreweryHouseModel" y_Mo_reckon y_Mo_reckon : Cond) ∈ lw_gd := List.mem_filter.mpr ⟨List.mem_append_left _ (List.mem_of_getElem? (i := 185) (by decide +kernel)), by decide +kernel⟩
theorem sl_186 : (.selects "BreweryHouseModel" y_Mo_isBad y_Mo_isBad : Cond) ∈ lw_gd := List.mem_filter.mpr ⟨List.mem_append_left _ (List.mem_of_getElem? (i := 186) (by decide +kernel)), by decide +kernel⟩
theorem sl_187 : (.selects "BreweryHouseModel" y_Mo_go y_Mo_go : Cond) ∈ lw_gd := List.mem_filter.mpr ⟨List.mem_append_left _ (List.mem_of_getElem? (i := 187) (by decide +kernel)), by decide +kernel⟩
theorem sl_188 : (.selects "BreweryHouseModel" y_Mo_begin y_Mo_begin : Cond) ∈ lw_gd := List.mem_filter.mpr ⟨List.mem_append_left _ (List.mem_of_getElem? (i := 188) (by decide +kernel)), by decide +kernel⟩
theorem sl_189 : (.selects "BreweryHouseModel" y_Mo_goUntil y_Mo_goUntil : Cond) ∈ lw_gd := List.mem_filter.mpr ⟨List.mem_append_left _ (List.mem_of_getElem? (i := 189) (by decide +kernel)), by decide +kernel⟩
theorem sl_19 : (.selects "BreweryHouse$Rows" y_Ro_put y_Ro_put : Cond) ∈ lw_gd := List.mem_filter.mpr ⟨List.mem_append_left _ (List.mem_of_getElem? (i := 19) (by decide +kernel)), by decide +kernel⟩
theorem sl_190 : (.selects "BreweryHouseModel" y_Mo_goPar y_Mo_goPar : Cond) ∈ lw_gd := List.mem_filter.mpr ⟨List.mem_append_left _ (List.mem_of_getElem? (i := 190) (by decide +kernel)), by decide +kernel⟩
theorem sl_191 : (.selects "BreweryHouseModel" y_Mo_goRamp y_Mo_goRamp : Cond) ∈ lw_gd := List.mem_filter.mpr ⟨List.mem_append_left _ (List.mem_of_getElem? (i := 191) (by decide +kernel)), by decide +kernel⟩
theorem sl_192 : (.selects "BreweryHouseModel" y_Mo_flow y_Mo_flow : Cond) ∈ lw_gd := List.mem_filter.mpr ⟨List.mem_append_left _ (List.mem_of_getElem? (i := 192) (by decide +kernel)), by decide +kernel⟩
theorem sl_193 : (.selects "BreweryHouseModel" y_Mo_come y_Mo_come : Cond) ∈ lw_gd := List.mem_filter.mpr ⟨List.mem_append_left _ (List.mem_of_getElem? (i := 193) (by decide +kernel)), by decide +kernel⟩
theorem sl_194 : (.selects "BreweryHouseModel" y_Mo_stillAt y_Mo_stillAt : Cond) ∈ lw_gd := List.mem_filter.mpr ⟨List.mem_append_left _ (List.mem_of_getElem? (i := 194) (by decide +kernel)), by decide +kernel⟩
theorem sl_2 : (.selects "BreweryHouse$Plant" y_Pl_takesNumber y_Pl_takesNumber : Cond) ∈ lw_gd := List.mem_filter.mpr ⟨List.mem_append_left _ (List.mem_of_getElem? (i := 2) (by decide +kernel)), by decide +kernel⟩
theorem sl_20 : (.selects "BreweryHouse$ProgramReader" y_Rd_nextWord y_Rd_nextWord : Cond) ∈ lw_gd := List.mem_filter.mpr ⟨List.mem_append_left _ (List.mem_of_getElem? (i := 20) (by decide +kernel)), by decide +kernel⟩
theorem sl_21 : (.selects "BreweryHouse$ProgramReader" y_Rd_scanLetters y_Rd_scanLetters : Cond) ∈ lw_gd := List.mem_filter.mpr ⟨List.mem_append_left _ (List.mem_of_getElem? (i := 21) (by decide +kernel)), by decide +kernel⟩
theorem sl_22 : (.selects "BreweryHouse$ProgramReader" y_Rd_scanNumber y_Rd_scanNumber : Cond) ∈ lw_gd := List.mem_filter.mpr ⟨List.mem_append_left _ (List.mem_of_getElem? (i := 22) (by decide +kernel)), by decide +kernel⟩
theorem sl_23 : (.selects "BreweryHouse$ProgramReader" y_Rd_refuseByte y_Rd_refuseByte : Cond) ∈ lw_gd := List.mem_filter.mpr ⟨List.mem_append_left _ (List.mem_of_getElem? (i := 23) (by decide +kernel)), by decide +kernel⟩
theorem sl_24 : (.selects "BreweryHouse$ProgramReader" y_Rd_fail y_Rd_fail : Cond) ∈ lw_gd := List.mem_filter.mpr ⟨List.mem_append_left _ (List.mem_of_getElem? (i := 24) (by decide +kernel)), by decide +kernel⟩
theorem sl_25 : (.selects "BreweryHouse$ProgramReader" y_Rd_takeNewName y_Rd_takeNewName : Cond) ∈ lw_gd := List.mem_filter.mpr ⟨List.mem_append_left _ (List.mem_of_getElem? (i := 25) (by decide +kernel)), by decide +kernel⟩
theorem sl_26 : (.selects "BreweryHouse$ProgramReader" y_Rd_readBlock y_Rd_readBlock : Cond) ∈ lw_gd := List.mem_filter.mpr ⟨List.mem_append_left _ (List.mem_of_getElem? (i := 26) (by decide +kernel)), by decide +kernel⟩
theorem sl_27 : (.selects "BreweryHouse$ProgramReader" y_Rd_readStatement y_Rd_readStatement : Cond) ∈ lw_gd := List.mem_filter.mpr ⟨List.mem_append_left _ (List.mem_of_getElem? (i := 27) (by decide +kernel)), by decide +kernel⟩
theorem sl_28 : (.selects "BreweryHouse$ProgramReader" y_Rd_readChange y_Rd_readChange : Cond) ∈ lw_gd := List.mem_filter.mpr ⟨List.mem_append_left _ (List.mem_of_getElem? (i := 28) (by decide +kernel)), by decide +kernel⟩
theorem sl_29 : (.selects "BreweryHouse$ProgramReader" y_Rd_takeName y_Rd_takeName : Cond) ∈ lw_gd := List.mem_filter.mpr ⟨List.mem_append_left _ (List.mem_of_getElem? (i := 29) (by decide +kernel)), by decide +kernel⟩
theorem sl_3 : (.selects "BreweryHouse$Plant" y_Pl_endsLine y_Pl_endsLine : Cond) ∈ lw_gd := List.mem_filter.mpr ⟨List.mem_append_left _ (List.mem_of_getElem? (i := 3) (by decide +kernel)), by decide +kernel⟩
theorem sl_30 : (.selects "BreweryHouse$ProgramReader" y_Rd_readLevel y_Rd_readLevel : Cond) ∈ lw_gd := List.mem_filter.mpr ⟨List.mem_append_left _ (List.mem_of_getElem? (i := 30) (by decide +kernel)), by decide +kernel⟩
theorem sl_31 : (.selects "BreweryHouse$ProgramReader" y_Rd_readFactor y_Rd_readFactor : Cond) ∈ lw_gd := List.mem_filter.mpr ⟨List.mem_append_left _ (List.mem_of_getElem? (i := 31) (by decide +kernel)), by decide +kernel⟩
theorem sl_32 : (.selects "BreweryHouse$ProgramReader" y_Rd_makeNode y_Rd_makeNode : Cond) ∈ lw_gd := List.mem_filter.mpr ⟨List.mem_append_left _ (List.mem_of_getElem? (i := 32) (by decide +kernel)), by decide +kernel⟩
theorem sl_33 : (.selects "BreweryHouse$ProgramReader" y_Rd_join y_Rd_join : Cond) ∈ lw_gd := List.mem_filter.mpr ⟨List.mem_append_left _ (List.mem_of_getElem? (i := 33) (by decide +kernel)), by decide +kernel⟩
theorem sl_34 : (.selects "BreweryHouse$ProgramReader" y_Rd_demand y_Rd_demand : Cond) ∈ lw_gd := List.mem_filter.mpr ⟨List.mem_append_left _ (List.mem_of_getElem? (i := 34) (by decide +kernel)), by decide +kernel⟩
theorem sl_35 : (.selects "BreweryHouse$ProgramReader" y_Rd_take y_Rd_take : Cond) ∈ lw_gd := List.mem_filter.mpr ⟨List.mem_append_left _ (List.mem_of_getElem? (i := 35) (by decide +kernel)), by decide +kernel⟩
theorem sl_36 : (.selects "BreweryHouse$ProgramReader" y_Rd_giveRange y_Rd_giveRange : Cond) ∈ lw_gd := List.mem_filter.mpr ⟨List.mem_append_left _ (List.mem_of_getElem? (i := 36) (by decide +kernel)), by decide +kernel⟩
theorem sl_37 : (.selects "BreweryHouse$ProgramReader" y_Rd_readPause y_Rd_readPause : Cond) ∈ lw_gd := List.mem_filter.mpr ⟨List.mem_append_left _ (List.mem_of_getElem? (i := 37) (by decide +kernel)), by decide +kernel⟩
theorem sl_38 : (.selects "BreweryHouse$ProgramReader" y_Rd_readPar y_Rd_readPar : Cond) ∈ lw_gd := List.mem_filter.mpr ⟨List.mem_append_left _ (List.mem_of_getElem? (i := 38) (by decide +kernel)), by decide +kernel⟩
theorem sl_39 : (.selects "BreweryHouse$ProgramReader" y_Rd_readGuarded y_Rd_readGuarded : Cond) ∈ lw_gd := List.mem_filter.mpr ⟨List.mem_append_left _ (List.mem_of_getElem? (i := 39) (by decide +kernel)), by decide +kernel⟩
theorem sl_4 : (.selects "BreweryHouse$Plant" y_Pl_addThing y_Pl_addThing : Cond) ∈ lw_gd := List.mem_filter.mpr ⟨List.mem_append_left _ (List.mem_of_getElem? (i := 4) (by decide +kernel)), by decide +kernel⟩
theorem sl_40 : (.selects "BreweryHouse$ProgramReader" y_Rd_readShort y_Rd_readShort : Cond) ∈ lw_gd := List.mem_filter.mpr ⟨List.mem_append_left _ (List.mem_of_getElem? (i := 40) (by decide +kernel)), by decide +kernel⟩
theorem sl_41 : (.selects "BreweryHouse$ProgramReader" y_Rd_takeUnit y_Rd_takeUnit : Cond) ∈ lw_gd := List.mem_filter.mpr ⟨List.mem_append_left _ (List.mem_of_getElem? (i := 41) (by decide +kernel)), by decide +kernel⟩
theorem sl_42 : (.selects "BreweryHouse" y_Bh_takePlant y_Bh_takePlant : Cond) ∈ lw_gd := List.mem_filter.mpr ⟨List.mem_append_left _ (List.mem_of_getElem? (i := 42) (by decide +kernel)), by decide +kernel⟩
theorem sl_43 : (.selects "BreweryHouse" y_Bh_takeRows y_Bh_takeRows : Cond) ∈ lw_gd := List.mem_filter.mpr ⟨List.mem_append_left _ (List.mem_of_getElem? (i := 43) (by decide +kernel)), by decide +kernel⟩
theorem sl_44 : (.selects "BreweryHouse" y_Bh_takeProgram y_Bh_takeProgram : Cond) ∈ lw_gd := List.mem_filter.mpr ⟨List.mem_append_left _ (List.mem_of_getElem? (i := 44) (by decide +kernel)), by decide +kernel⟩
theorem sl_45 : (.selects "BreweryHouse$Run" y_Ru_expandAll y_Ru_expandAll : Cond) ∈ lw_gd := List.mem_filter.mpr ⟨List.mem_append_left _ (List.mem_of_getElem? (i := 45) (by decide +kernel)), by decide +kernel⟩
theorem sl_46 : (.selects "BreweryHouse$Ways" y_Wa_remove y_Wa_remove : Cond) ∈ lw_gd := List.mem_filter.mpr ⟨List.mem_append_left _ (List.mem_of_getElem? (i := 46) (by decide +kernel)), by decide +kernel⟩
theorem sl_47 : (.selects "BreweryHouse$Stock" y_St_heldLevel y_St_heldLevel : Cond) ∈ lw_gd := List.mem_filter.mpr ⟨List.mem_append_left _ (List.mem_of_getElem? (i := 47) (by decide +kernel)), by decide +kernel⟩
theorem sl_48 : (.selects "BreweryHouse$Safety" y_Sf_findRivals y_Sf_findRivals : Cond) ∈ lw_gd := List.mem_filter.mpr ⟨List.mem_append_left _ (List.mem_of_getElem? (i := 48) (by decide +kernel)), by decide +kernel⟩
theorem sl_49 : (.selects "BreweryHouse$Safety" y_Sf_link y_Sf_link : Cond) ∈ lw_gd := List.mem_filter.mpr ⟨List.mem_append_left _ (List.mem_of_getElem? (i := 49) (by decide +kernel)), by decide +kernel⟩
theorem sl_5 : (.selects "BreweryHouse$Plant" y_Pl_readPipe y_Pl_readPipe : Cond) ∈ lw_gd := List.mem_filter.mpr ⟨List.mem_append_left _ (List.mem_of_getElem? (i := 5) (by decide +kernel)), by decide +kernel⟩
theorem sl_50 : (.selects "BreweryHouse$Safety" y_Sf_meet y_Sf_meet : Cond) ∈ lw_gd := List.mem_filter.mpr ⟨List.mem_append_left _ (List.mem_of_getElem? (i := 50) (by decide +kernel)), by decide +kernel⟩
theorem sl_51 : (.selects "BreweryHouse$Safety" y_Sf_otherPasses y_Sf_otherPasses : Cond) ∈ lw_gd := List.mem_filter.mpr ⟨List.mem_append_left _ (List.mem_of_getElem? (i := 51) (by decide +kernel)), by decide +kernel⟩
theorem sl_52 : (.selects "BreweryHouse$Stock" y_St_forgetCleanings y_St_forgetCleanings : Cond) ∈ lw_gd := List.mem_filter.mpr ⟨List.mem_append_left _ (List.mem_of_getElem? (i := 52) (by decide +kernel)), by decide +kernel⟩
theorem sl_53 : (.selects "BreweryHouse$Acts" y_Ac_isBound y_Ac_isBound : Cond) ∈ lw_gd := List.mem_filter.mpr ⟨List.mem_append_left _ (List.mem_of_getElem? (i := 53) (by decide +kernel)), by decide +kernel⟩
theorem sl_54 : (.selects "BreweryHouse$Acts" y_Ac_openWay y_Ac_openWay : Cond) ∈ lw_gd := List.mem_filter.mpr ⟨List.mem_append_left _ (List.mem_of_getElem? (i := 54) (by decide +kernel)), by decide +kernel⟩
theorem sl_55 : (.selects "BreweryHouse$Ways" y_Wa_onward y_Wa_onward : Cond) ∈ lw_gd := List.mem_filter.mpr ⟨List.mem_append_left _ (List.mem_of_getElem? (i := 55) (by decide +kernel)), by decide +kernel⟩
theorem sl_56 : (.selects "BreweryHouse$Ways" y_Wa_cheapestEntry y_Wa_cheapestEntry : Cond) ∈ lw_gd := List.mem_filter.mpr ⟨List.mem_append_left _ (List.mem_of_getElem? (i := 56) (by decide +kernel)), by decide +kernel⟩
theorem sl_57 : (.selects "BreweryHouse$Acts" y_Ac_closeWay y_Ac_closeWay : Cond) ∈ lw_gd := List.mem_filter.mpr ⟨List.mem_append_left _ (List.mem_of_getElem? (i := 57) (by decide +kernel)), by decide +kernel⟩
theorem sl_58 : (.selects "BreweryHouse$Acts" y_Ac_setPosition y_Ac_setPosition : Cond) ∈ lw_gd := List.mem_filter.mpr ⟨List.mem_append_left _ (List.mem_of_getElem? (i := 58) (by decide +kernel)), by decide +kernel⟩
theorem sl_59 : (.selects "BreweryHouse$Acts" y_Ac_cleanSpace y_Ac_cleanSpace : Cond) ∈ lw_gd := List.mem_filter.mpr ⟨List.mem_append_left _ (List.mem_of_getElem? (i := 59) (by decide +kernel)), by decide +kernel⟩
theorem sl_6 : (.selects "BreweryHouse$Plant" y_Pl_takesPipeEnd y_Pl_takesPipeEnd : Cond) ∈ lw_gd := List.mem_filter.mpr ⟨List.mem_append_left _ (List.mem_of_getElem? (i := 6) (by decide +kernel)), by decide +kernel⟩
theorem sl_60 : (.selects "BreweryHouse$Acts" y_Ac_drainSpace y_Ac_drainSpace : Cond) ∈ lw_gd := List.mem_filter.mpr ⟨List.mem_append_left _ (List.mem_of_getElem? (i := 60) (by decide +kernel)), by decide +kernel⟩
theorem sl_61 : (.selects "BreweryHouse$Run" y_Ru_enter y_Ru_enter : Cond) ∈ lw_gd := List.mem_filter.mpr ⟨List.mem_append_left _ (List.mem_of_getElem? (i := 61) (by decide +kernel)), by decide +kernel⟩
theorem sl_62 : (.selects "BreweryHouse" y_Bh_senseAll y_Bh_senseAll : Cond) ∈ lw_gd := List.mem_filter.mpr ⟨List.mem_append_left _ (List.mem_of_getElem? (i := 62) (by decide +kernel)), by decide +kernel⟩
theorem sl_63 : (.selects "BreweryHouse" y_Bh_sensed y_Bh_sensed : Cond) ∈ lw_gd := List.mem_filter.mpr ⟨List.mem_append_left _ (List.mem_of_getElem? (i := 63) (by decide +kernel)), by decide +kernel⟩
theorem sl_64 : (.selects "BreweryHouse$Run" y_Ru_lookAtLimits y_Ru_lookAtLimits : Cond) ∈ lw_gd := List.mem_filter.mpr ⟨List.mem_append_left _ (List.mem_of_getElem? (i := 64) (by decide +kernel)), by decide +kernel⟩
theorem sl_65 : (.selects "BreweryHouse$Run" y_Ru_isOver y_Ru_isOver : Cond) ∈ lw_gd := List.mem_filter.mpr ⟨List.mem_append_left _ (List.mem_of_getElem? (i := 65) (by decide +kernel)), by decide +kernel⟩
theorem sl_66 : (.selects "BreweryHouse$Run" y_Ru_lookAtLimit y_Ru_lookAtLimit : Cond) ∈ lw_gd := List.mem_filter.mpr ⟨List.mem_append_left _ (List.mem_of_getElem? (i := 66) (by decide +kernel)), by decide +kernel⟩
theorem sl_67 : (.selects "BreweryHouse$Run" y_Ru_reckon y_Ru_reckon : Cond) ∈ lw_gd := List.mem_filter.mpr ⟨List.mem_append_left _ (List.mem_of_getElem? (i := 67) (by decide +kernel)), by decide +kernel⟩
theorem sl_68 : (.selects "BreweryHouse$Run" y_Ru_fault y_Ru_fault : Cond) ∈ lw_gd := List.mem_filter.mpr ⟨List.mem_append_left _ (List.mem_of_getElem? (i := 68) (by decide +kernel)), by decide +kernel⟩
theorem sl_69 : (.selects "BreweryHouse$Run" y_Ru_choose y_Ru_choose : Cond) ∈ lw_gd := List.mem_filter.mpr ⟨List.mem_append_left _ (List.mem_of_getElem? (i := 69) (by decide +kernel)), by decide +kernel⟩
theorem sl_7 : (.selects "BreweryHouse$Plant" y_Pl_addPipe y_Pl_addPipe : Cond) ∈ lw_gd := List.mem_filter.mpr ⟨List.mem_append_left _ (List.mem_of_getElem? (i := 7) (by decide +kernel)), by decide +kernel⟩
theorem sl_70 : (.selects "BreweryHouse$Run" y_Ru_goOn y_Ru_goOn : Cond) ∈ lw_gd := List.mem_filter.mpr ⟨List.mem_append_left _ (List.mem_of_getElem? (i := 70) (by decide +kernel)), by decide +kernel⟩
theorem sl_71 : (.selects "BreweryHouse$Run" y_Ru_mayBegin y_Ru_mayBegin : Cond) ∈ lw_gd := List.mem_filter.mpr ⟨List.mem_append_left _ (List.mem_of_getElem? (i := 71) (by decide +kernel)), by decide +kernel⟩
theorem sl_72 : (.selects "BreweryHouse$Run" y_Ru_goesPast y_Ru_goesPast : Cond) ∈ lw_gd := List.mem_filter.mpr ⟨List.mem_append_left _ (List.mem_of_getElem? (i := 72) (by decide +kernel)), by decide +kernel⟩
theorem sl_73 : (.selects "BreweryHouse$Run" y_Ru_lookAgain y_Ru_lookAgain : Cond) ∈ lw_gd := List.mem_filter.mpr ⟨List.mem_append_left _ (List.mem_of_getElem? (i := 73) (by decide +kernel)), by decide +kernel⟩
theorem sl_74 : (.selects "BreweryHouse$Run" y_Ru_rampOn y_Ru_rampOn : Cond) ∈ lw_gd := List.mem_filter.mpr ⟨List.mem_append_left _ (List.mem_of_getElem? (i := 74) (by decide +kernel)), by decide +kernel⟩
theorem sl_75 : (.selects "BreweryHouse$Run" y_Ru_setValue y_Ru_setValue : Cond) ∈ lw_gd := List.mem_filter.mpr ⟨List.mem_append_left _ (List.mem_of_getElem? (i := 75) (by decide +kernel)), by decide +kernel⟩
theorem sl_76 : (.selects "BreweryHouse$Run" y_Ru_beginReckoned y_Ru_beginReckoned : Cond) ∈ lw_gd := List.mem_filter.mpr ⟨List.mem_append_left _ (List.mem_of_getElem? (i := 76) (by decide +kernel)), by decide +kernel⟩
theorem sl_77 : (.selects "BreweryHouse$Run" y_Ru_stand y_Ru_stand : Cond) ∈ lw_gd := List.mem_filter.mpr ⟨List.mem_append_left _ (List.mem_of_getElem? (i := 77) (by decide +kernel)), by decide +kernel⟩
theorem sl_78 : (.selects "BreweryHouse$Run" y_Ru_beginRamp y_Ru_beginRamp : Cond) ∈ lw_gd := List.mem_filter.mpr ⟨List.mem_append_left _ (List.mem_of_getElem? (i := 78) (by decide +kernel)), by decide +kernel⟩
theorem sl_79 : (.selects "BreweryHouse$Run" y_Ru_goInside y_Ru_goInside : Cond) ∈ lw_gd := List.mem_filter.mpr ⟨List.mem_append_left _ (List.mem_of_getElem? (i := 79) (by decide +kernel)), by decide +kernel⟩
theorem sl_8 : (.selects "BreweryHouse$Plant" y_Pl_joins y_Pl_joins : Cond) ∈ lw_gd := List.mem_filter.mpr ⟨List.mem_append_left _ (List.mem_of_getElem? (i := 8) (by decide +kernel)), by decide +kernel⟩
theorem sl_80 : (.selects "BreweryHouse$Run" y_Ru_beginPlain y_Ru_beginPlain : Cond) ∈ lw_gd := List.mem_filter.mpr ⟨List.mem_append_left _ (List.mem_of_getElem? (i := 80) (by decide +kernel)), by decide +kernel⟩
theorem sl_81 : (.selects "BreweryHouse$Run" y_Ru_beginPar y_Ru_beginPar : Cond) ∈ lw_gd := List.mem_filter.mpr ⟨List.mem_append_left _ (List.mem_of_getElem? (i := 81) (by decide +kernel)), by decide +kernel⟩
theorem sl_82 : (.selects "BreweryHouse$Run" y_Ru_endsAllSides y_Ru_endsAllSides : Cond) ∈ lw_gd := List.mem_filter.mpr ⟨List.mem_append_left _ (List.mem_of_getElem? (i := 82) (by decide +kernel)), by decide +kernel⟩
theorem sl_83 : (.selects "BreweryHouse$Run" y_Ru_endsRounds y_Ru_endsRounds : Cond) ∈ lw_gd := List.mem_filter.mpr ⟨List.mem_append_left _ (List.mem_of_getElem? (i := 83) (by decide +kernel)), by decide +kernel⟩
theorem sl_84 : (.selects "BreweryHouse$Ways" y_Wa_movesLitre y_Wa_movesLitre : Cond) ∈ lw_gd := List.mem_filter.mpr ⟨List.mem_append_left _ (List.mem_of_getElem? (i := 84) (by decide +kernel)), by decide +kernel⟩
theorem sl_85 : (.selects "BreweryHouse$Ways" y_Wa_goesForth y_Wa_goesForth : Cond) ∈ lw_gd := List.mem_filter.mpr ⟨List.mem_append_left _ (List.mem_of_getElem? (i := 85) (by decide +kernel)), by decide +kernel⟩
theorem sl_86 : (.selects "BreweryHouse$Stock" y_St_leavingCell y_St_leavingCell : Cond) ∈ lw_gd := List.mem_filter.mpr ⟨List.mem_append_left _ (List.mem_of_getElem? (i := 86) (by decide +kernel)), by decide +kernel⟩
theorem sl_87 : (.selects "BreweryHouse$Stock" y_St_isFull y_St_isFull : Cond) ∈ lw_gd := List.mem_filter.mpr ⟨List.mem_append_left _ (List.mem_of_getElem? (i := 87) (by decide +kernel)), by decide +kernel⟩
theorem sl_88 : (.selects "BreweryHouse$Run" y_Ru_seek y_Ru_seek : Cond) ∈ lw_gd := List.mem_filter.mpr ⟨List.mem_append_left _ (List.mem_of_getElem? (i := 88) (by decide +kernel)), by decide +kernel⟩
theorem sl_89 : (.selects "BreweryHouseModel" y_Mo_readPlant y_Mo_readPlant : Cond) ∈ lw_gd := List.mem_filter.mpr ⟨List.mem_append_left _ (List.mem_of_getElem? (i := 89) (by decide +kernel)), by decide +kernel⟩
theorem sl_9 : (.selects "BreweryHouse$Rows" y_Ro_nextWord y_Ro_nextWord : Cond) ∈ lw_gd := List.mem_filter.mpr ⟨List.mem_append_left _ (List.mem_of_getElem? (i := 9) (by decide +kernel)), by decide +kernel⟩
theorem sl_90 : (.selects "BreweryHouseModel" y_Mo_planLine y_Mo_planLine : Cond) ∈ lw_gd := List.mem_filter.mpr ⟨List.mem_append_left _ (List.mem_of_getElem? (i := 90) (by decide +kernel)), by decide +kernel⟩
theorem sl_91 : (.selects "BreweryHouseModel" y_Mo_here y_Mo_here : Cond) ∈ lw_gd := List.mem_filter.mpr ⟨List.mem_append_left _ (List.mem_of_getElem? (i := 91) (by decide +kernel)), by decide +kernel⟩
theorem sl_92 : (.selects "BreweryHouseModel" y_Mo_over y_Mo_over : Cond) ∈ lw_gd := List.mem_filter.mpr ⟨List.mem_append_left _ (List.mem_of_getElem? (i := 92) (by decide +kernel)), by decide +kernel⟩
theorem sl_93 : (.selects "BreweryHouseModel" y_Mo_number y_Mo_number : Cond) ∈ lw_gd := List.mem_filter.mpr ⟨List.mem_append_left _ (List.mem_of_getElem? (i := 93) (by decide +kernel)), by decide +kernel⟩
theorem sl_94 : (.selects "BreweryHouseModel" y_Mo_isNew y_Mo_isNew : Cond) ∈ lw_gd := List.mem_filter.mpr ⟨List.mem_append_left _ (List.mem_of_getElem? (i := 94) (by decide +kernel)), by decide +kernel⟩
theorem sl_95 : (.selects "BreweryHouseModel" y_Mo_build y_Mo_build : Cond) ∈ lw_gd := List.mem_filter.mpr ⟨List.mem_append_left _ (List.mem_of_getElem? (i := 95) (by decide +kernel)), by decide +kernel⟩
theorem sl_96 : (.selects "BreweryHouseModel" y_Mo_forget y_Mo_forget : Cond) ∈ lw_gd := List.mem_filter.mpr ⟨List.mem_append_left _ (List.mem_of_getElem? (i := 96) (by decide +kernel)), by decide +kernel⟩
theorem sl_97 : (.selects "BreweryHouseModel$Rows" y_Mr_cut y_Mr_cut : Cond) ∈ lw_gd := List.mem_filter.mpr ⟨List.mem_append_left _ (List.mem_of_getElem? (i := 97) (by decide +kernel)), by decide +kernel⟩
theorem sl_98 : (.selects "BreweryHouseModel$Rows" y_Mr_is y_Mr_is : Cond) ∈ lw_gd := List.mem_filter.mpr ⟨List.mem_append_left _ (List.mem_of_getElem? (i := 98) (by decide +kernel)), by decide +kernel⟩
theorem sl_99 : (.selects "BreweryHouseModel$Rows" y_Mr_wide y_Mr_wide : Cond) ∈ lw_gd := List.mem_filter.mpr ⟨List.mem_append_left _ (List.mem_of_getElem? (i := 99) (by decide +kernel)), by decide +kernel⟩
