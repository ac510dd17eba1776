theorem tb_1 : ∀ w ∈ tables_1_1, w ∈ lw_tbl := fun w h => List.mem_append_right _ (List.mem_append_left _ h)
theorem tb_2 : ∀ w ∈ tables_1_2, w ∈ lw_tbl := fun w h => List.mem_append_right _ (List.mem_append_right _ (List.mem_append_left _ h))
theorem tb_3 : ∀ w ∈ tables_1_3, w ∈ lw_tbl := fun w h => List.mem_append_right _ (List.mem_append_right _ (List.mem_append_right _ (List.mem_append_left _ h)))
theorem tb_4 : ∀ w ∈ tables_1_4, w ∈ lw_tbl := fun w h => List.mem_append_right _ (List.mem_append_right _ (List.mem_append_right _ (List.mem_append_right _ (List.mem_append_left _ h))))
theorem tb_5 : ∀ w ∈ tables_1_5, w ∈ lw_tbl := fun w h => List.mem_append_right _ (List.mem_append_right _ (List.mem_append_right _ (List.mem_append_right _ (List.mem_append_right _ (List.mem_append_left _ h)))))
theorem tb_6 : ∀ w ∈ tables_1_6, w ∈ lw_tbl := fun w h => List.mem_append_right _ (List.mem_append_right _ (List.mem_append_right _ (List.mem_append_right _ (List.mem_append_right _ (List.mem_append_right _ (List.mem_append_left _ h))))))
theorem tb_7 : ∀ w ∈ tables_1_7, w ∈ lw_tbl := fun w h => List.mem_append_right _ (List.mem_append_right _ (List.mem_append_right _ (List.mem_append_right _ (List.mem_append_right _ (List.mem_append_right _ (List.mem_append_right _ (List.mem_append_left _ h)))))))
theorem tb_8 : ∀ w ∈ tables_1_8, w ∈ lw_tbl := fun w h => List.mem_append_right _ (List.mem_append_right _ (List.mem_append_right _ (List.mem_append_right _ (List.mem_append_right _ (List.mem_append_right _ (List.mem_append_right _ (List.mem_append_right _ (List.mem_append_left _ h))))))))
theorem tb_9 : ∀ w ∈ tables_1_9, w ∈ lw_tbl := fun w h => List.mem_append_right _ (List.mem_append_right _ (List.mem_append_right _ (List.mem_append_right _ (List.mem_append_right _ (List.mem_append_right _ (List.mem_append_right _ (List.mem_append_right _ (List.mem_append_right _ (List.mem_append_left _ h)))))))))
theorem tb_10 : ∀ w ∈ tables_1_10, w ∈ lw_tbl := fun w h => List.mem_append_right _ (List.mem_append_right _ (List.mem_append_right _ (List.mem_append_right _ (List.mem_append_right _ (List.mem_append_right _ (List.mem_append_right _ (List.mem_append_right _ (List.mem_append_right _ (List.mem_append_right _ (h))))))))))
set_option maxRecDepth 100000 in
theorem cw_0 : wdc 0 ∈ lw_tbl := tb_2 _ (List.mem_of_getElem? (i := 46) rfl)
set_option maxRecDepth 100000 in
theorem cw_1 : wdc 1 ∈ lw_tbl := tb_6 _ (List.mem_of_getElem? (i := 100) rfl)
set_option maxRecDepth 100000 in
theorem cw_2 : wdc 2 ∈ lw_tbl := tb_6 _ (List.mem_of_getElem? (i := 109) rfl)
set_option maxRecDepth 100000 in
theorem cw_3 : wdc 3 ∈ lw_tbl := tb_6 _ (List.mem_of_getElem? (i := 114) rfl)
set_option maxRecDepth 100000 in
theorem cw_4 : wdc 4 ∈ lw_tbl := tb_6 _ (List.mem_of_getElem? (i := 118) rfl)
set_option maxRecDepth 100000 in
theorem cw_5 : wdc 5 ∈ lw_tbl := tb_6 _ (List.mem_of_getElem? (i := 122) rfl)
set_option maxRecDepth 100000 in
theorem cw_6 : wdc 6 ∈ lw_tbl := tb_7 _ (List.mem_of_getElem? (i := 26) rfl)
set_option maxRecDepth 100000 in
theorem cw_7 : wdc 7 ∈ lw_tbl := tb_7 _ (List.mem_of_getElem? (i := 31) rfl)
set_option maxRecDepth 100000 in
theorem cw_8 : wdc 8 ∈ lw_tbl := tb_7 _ (List.mem_of_getElem? (i := 35) rfl)
set_option maxRecDepth 100000 in
theorem cw_9 : wdc 9 ∈ lw_tbl := tb_7 _ (List.mem_of_getElem? (i := 39) rfl)
set_option maxRecDepth 100000 in
theorem cw_10 : wdc 10 ∈ lw_tbl := tb_2 _ (List.mem_of_getElem? (i := 136) rfl)
set_option maxRecDepth 100000 in
theorem cw_11 : wdc 11 ∈ lw_tbl := tb_6 _ (List.mem_of_getElem? (i := 204) rfl)
set_option maxRecDepth 100000 in
theorem cw_12 : wdc 12 ∈ lw_tbl := tb_6 _ (List.mem_of_getElem? (i := 216) rfl)
set_option maxRecDepth 100000 in
theorem cw_13 : wdc 13 ∈ lw_tbl := tb_6 _ (List.mem_of_getElem? (i := 209) rfl)
set_option maxRecDepth 100000 in
theorem cw_14 : wdc 14 ∈ lw_tbl := tb_6 _ (List.mem_of_getElem? (i := 213) rfl)
set_option maxRecDepth 100000 in
theorem cw_15 : wdc 15 ∈ lw_tbl := tb_6 _ (List.mem_of_getElem? (i := 228) rfl)
set_option maxRecDepth 100000 in
theorem cw_16 : wdc 16 ∈ lw_tbl := tb_6 _ (List.mem_of_getElem? (i := 232) rfl)
set_option maxRecDepth 100000 in
theorem cw_17 : wdc 17 ∈ lw_tbl := tb_1 _ (List.mem_of_getElem? (i := 68) rfl)
set_option maxRecDepth 100000 in
theorem cw_18 : wdc 18 ∈ lw_tbl := tb_5 _ (List.mem_of_getElem? (i := 22) rfl)
set_option maxRecDepth 100000 in
theorem cw_19 : wdc 19 ∈ lw_tbl := tb_3 _ (List.mem_of_getElem? (i := 41) rfl)
set_option maxRecDepth 100000 in
theorem cw_20 : wdc 20 ∈ lw_tbl := tb_3 _ (List.mem_of_getElem? (i := 45) rfl)
set_option maxRecDepth 100000 in
theorem cw_21 : wdc 21 ∈ lw_tbl := tb_2 _ (List.mem_of_getElem? (i := 12) rfl)
set_option maxRecDepth 100000 in
theorem cw_22 : wdc 22 ∈ lw_tbl := tb_4 _ (List.mem_of_getElem? (i := 200) rfl)
set_option maxRecDepth 100000 in
theorem cw_23 : wdc 23 ∈ lw_tbl := tb_4 _ (List.mem_of_getElem? (i := 206) rfl)
set_option maxRecDepth 100000 in
theorem cw_24 : wdc 24 ∈ lw_tbl := tb_4 _ (List.mem_of_getElem? (i := 231) rfl)
set_option maxRecDepth 100000 in
theorem cw_25 : wdc 25 ∈ lw_tbl := tb_4 _ (List.mem_of_getElem? (i := 217) rfl)
set_option maxRecDepth 100000 in
theorem cw_26 : wdc 26 ∈ lw_tbl := tb_4 _ (List.mem_of_getElem? (i := 223) rfl)
set_option maxRecDepth 100000 in
theorem cw_27 : wdc 27 ∈ lw_tbl := tb_5 _ (List.mem_of_getElem? (i := 3) rfl)
set_option maxRecDepth 100000 in
theorem cw_28 : wdc 28 ∈ lw_tbl := tb_5 _ (List.mem_of_getElem? (i := 7) rfl)
set_option maxRecDepth 100000 in
theorem cw_29 : wdc 29 ∈ lw_tbl := tb_5 _ (List.mem_of_getElem? (i := 10) rfl)
set_option maxRecDepth 100000 in
theorem cw_30 : wdc 30 ∈ lw_tbl := tb_1 _ (List.mem_of_getElem? (i := 50) rfl)
set_option maxRecDepth 100000 in
theorem cw_31 : wdc 31 ∈ lw_tbl := tb_5 _ (List.mem_of_getElem? (i := 127) rfl)
set_option maxRecDepth 100000 in
theorem cw_32 : wdc 32 ∈ lw_tbl := tb_7 _ (List.mem_of_getElem? (i := 130) rfl)
set_option maxRecDepth 100000 in
theorem cw_33 : wdc 33 ∈ lw_tbl := tb_3 _ (List.mem_of_getElem? (i := 135) rfl)
set_option maxRecDepth 100000 in
theorem cw_34 : wdc 34 ∈ lw_tbl := tb_1 _ (List.mem_of_getElem? (i := 188) rfl)
set_option maxRecDepth 100000 in
theorem cw_35 : wdc 35 ∈ lw_tbl := tb_3 _ (List.mem_of_getElem? (i := 149) rfl)
set_option maxRecDepth 100000 in
theorem cw_36 : wdc 36 ∈ lw_tbl := tb_5 _ (List.mem_of_getElem? (i := 222) rfl)
set_option maxRecDepth 100000 in
theorem cw_37 : wdc 37 ∈ lw_tbl := tb_3 _ (List.mem_of_getElem? (i := 118) rfl)
set_option maxRecDepth 100000 in
theorem cw_38 : wdc 38 ∈ lw_tbl := tb_2 _ (List.mem_of_getElem? (i := 83) rfl)
set_option maxRecDepth 100000 in
theorem cw_39 : wdc 39 ∈ lw_tbl := tb_6 _ (List.mem_of_getElem? (i := 140) rfl)
set_option maxRecDepth 100000 in
theorem cw_40 : wdc 40 ∈ lw_tbl := tb_6 _ (List.mem_of_getElem? (i := 145) rfl)
set_option maxRecDepth 100000 in
theorem cw_41 : wdc 41 ∈ lw_tbl := tb_6 _ (List.mem_of_getElem? (i := 152) rfl)
set_option maxRecDepth 100000 in
theorem cw_42 : wdc 42 ∈ lw_tbl := tb_6 _ (List.mem_of_getElem? (i := 167) rfl)
set_option maxRecDepth 100000 in
theorem cw_43 : wdc 43 ∈ lw_tbl := tb_6 _ (List.mem_of_getElem? (i := 157) rfl)
set_option maxRecDepth 100000 in
theorem cw_44 : wdc 44 ∈ lw_tbl := tb_6 _ (List.mem_of_getElem? (i := 161) rfl)
set_option maxRecDepth 100000 in
theorem cw_45 : wdc 45 ∈ lw_tbl := tb_1 _ (List.mem_of_getElem? (i := 42) rfl)
set_option maxRecDepth 100000 in
theorem cw_46 : wdc 46 ∈ lw_tbl := tb_3 _ (List.mem_of_getElem? (i := 122) rfl)
set_option maxRecDepth 100000 in
theorem cw_47 : wdc 47 ∈ lw_tbl := tb_3 _ (List.mem_of_getElem? (i := 128) rfl)
set_option maxRecDepth 100000 in
theorem cw_48 : wdc 48 ∈ lw_tbl := tb_4 _ (List.mem_of_getElem? (i := 142) rfl)
set_option maxRecDepth 100000 in
theorem cw_49 : wdc 49 ∈ lw_tbl := tb_4 _ (List.mem_of_getElem? (i := 146) rfl)
set_option maxRecDepth 100000 in
theorem cw_50 : wdc 50 ∈ lw_tbl := tb_3 _ (List.mem_of_getElem? (i := 9) rfl)
set_option maxRecDepth 100000 in
theorem cw_51 : wdc 51 ∈ lw_tbl := tb_2 _ (List.mem_of_getElem? (i := 239) rfl)
set_option maxRecDepth 100000 in
theorem cw_52 : wdc 52 ∈ lw_tbl := tb_3 _ (List.mem_of_getElem? (i := 6) rfl)
set_option maxRecDepth 100000 in
theorem cw_53 : wdc 53 ∈ lw_tbl := tb_5 _ (List.mem_of_getElem? (i := 70) rfl)
set_option maxRecDepth 100000 in
theorem cw_54 : wdc 54 ∈ lw_tbl := tb_5 _ (List.mem_of_getElem? (i := 66) rfl)
set_option maxRecDepth 100000 in
theorem cw_55 : wdc 55 ∈ lw_tbl := tb_3 _ (List.mem_of_getElem? (i := 31) rfl)
set_option maxRecDepth 100000 in
theorem cw_56 : wdc 56 ∈ lw_tbl := tb_5 _ (List.mem_of_getElem? (i := 123) rfl)
set_option maxRecDepth 100000 in
theorem cw_57 : wdc 57 ∈ lw_tbl := tb_5 _ (List.mem_of_getElem? (i := 102) rfl)
set_option maxRecDepth 100000 in
theorem cw_58 : wdc 58 ∈ lw_tbl := tb_3 _ (List.mem_of_getElem? (i := 157) rfl)
set_option maxRecDepth 100000 in
theorem cw_59 : wdc 59 ∈ lw_tbl := tb_6 _ (List.mem_of_getElem? (i := 189) rfl)
set_option maxRecDepth 100000 in
theorem cw_60 : wdc 60 ∈ lw_tbl := tb_5 _ (List.mem_of_getElem? (i := 168) rfl)
set_option maxRecDepth 100000 in
theorem cw_61 : wdc 61 ∈ lw_tbl := tb_5 _ (List.mem_of_getElem? (i := 164) rfl)
set_option maxRecDepth 100000 in
theorem cw_62 : wdc 62 ∈ lw_tbl := tb_3 _ (List.mem_of_getElem? (i := 58) rfl)
set_option maxRecDepth 100000 in
theorem cw_63 : wdc 63 ∈ lw_tbl := tb_3 _ (List.mem_of_getElem? (i := 27) rfl)
set_option maxRecDepth 100000 in
theorem cw_64 : wdc 64 ∈ lw_tbl := tb_3 _ (List.mem_of_getElem? (i := 23) rfl)
set_option maxRecDepth 100000 in
theorem cw_65 : wdc 65 ∈ lw_tbl := tb_3 _ (List.mem_of_getElem? (i := 85) rfl)
set_option maxRecDepth 100000 in
theorem cw_66 : wdc 66 ∈ lw_tbl := tb_7 _ (List.mem_of_getElem? (i := 59) rfl)
set_option maxRecDepth 100000 in
theorem cw_67 : wdc 67 ∈ lw_tbl := tb_6 _ (List.mem_of_getElem? (i := 149) rfl)
set_option maxRecDepth 100000 in
theorem cw_68 : wdc 68 ∈ lw_tbl := tb_2 _ (List.mem_of_getElem? (i := 236) rfl)
set_option maxRecDepth 100000 in
theorem cw_69 : wdc 69 ∈ lw_tbl := tb_5 _ (List.mem_of_getElem? (i := 111) rfl)
set_option maxRecDepth 100000 in
theorem cw_70 : wdc 70 ∈ lw_tbl := tb_5 _ (List.mem_of_getElem? (i := 115) rfl)
set_option maxRecDepth 100000 in
theorem cw_71 : wdc 71 ∈ lw_tbl := tb_5 _ (List.mem_of_getElem? (i := 119) rfl)
set_option maxRecDepth 100000 in
theorem cw_72 : wdc 72 ∈ lw_tbl := tb_5 _ (List.mem_of_getElem? (i := 132) rfl)
set_option maxRecDepth 100000 in
theorem cw_73 : wdc 73 ∈ lw_tbl := tb_5 _ (List.mem_of_getElem? (i := 136) rfl)
set_option maxRecDepth 100000 in
theorem cw_74 : wdc 74 ∈ lw_tbl := tb_5 _ (List.mem_of_getElem? (i := 140) rfl)
set_option maxRecDepth 100000 in
theorem cw_75 : wdc 75 ∈ lw_tbl := tb_5 _ (List.mem_of_getElem? (i := 145) rfl)
set_option maxRecDepth 100000 in
theorem cw_76 : wdc 76 ∈ lw_tbl := tb_5 _ (List.mem_of_getElem? (i := 149) rfl)
set_option maxRecDepth 100000 in
theorem cw_77 : wdc 77 ∈ lw_tbl := tb_5 _ (List.mem_of_getElem? (i := 160) rfl)
set_option maxRecDepth 100000 in
theorem cw_78 : wdc 78 ∈ lw_tbl := tb_5 _ (List.mem_of_getElem? (i := 153) rfl)
set_option maxRecDepth 100000 in
theorem cw_79 : wdc 79 ∈ lw_tbl := tb_2 _ (List.mem_of_getElem? (i := 2) rfl)
set_option maxRecDepth 100000 in
theorem cw_80 : wdc 80 ∈ lw_tbl := tb_3 _ (List.mem_of_getElem? (i := 170) rfl)
set_option maxRecDepth 100000 in
theorem cw_81 : wdc 81 ∈ lw_tbl := tb_4 _ (List.mem_of_getElem? (i := 30) rfl)
set_option maxRecDepth 100000 in
theorem cw_82 : wdc 82 ∈ lw_tbl := tb_4 _ (List.mem_of_getElem? (i := 87) rfl)
set_option maxRecDepth 100000 in
theorem cw_83 : wdc 83 ∈ lw_tbl := tb_4 _ (List.mem_of_getElem? (i := 96) rfl)
set_option maxRecDepth 100000 in
theorem cw_84 : wdc 84 ∈ lw_tbl := tb_4 _ (List.mem_of_getElem? (i := 99) rfl)
set_option maxRecDepth 100000 in
theorem cw_85 : wdc 85 ∈ lw_tbl := tb_4 _ (List.mem_of_getElem? (i := 119) rfl)
set_option maxRecDepth 100000 in
theorem cw_86 : wdc 86 ∈ lw_tbl := tb_4 _ (List.mem_of_getElem? (i := 122) rfl)
set_option maxRecDepth 100000 in
theorem cw_87 : wdc 87 ∈ lw_tbl := tb_4 _ (List.mem_of_getElem? (i := 138) rfl)
set_option maxRecDepth 100000 in
theorem cw_88 : wdc 88 ∈ lw_tbl := tb_4 _ (List.mem_of_getElem? (i := 115) rfl)
set_option maxRecDepth 100000 in
theorem cw_89 : wdc 89 ∈ lw_tbl := tb_4 _ (List.mem_of_getElem? (i := 151) rfl)
set_option maxRecDepth 100000 in
theorem cw_90 : wdc 90 ∈ lw_tbl := tb_4 _ (List.mem_of_getElem? (i := 158) rfl)
set_option maxRecDepth 100000 in
theorem cw_91 : wdc 91 ∈ lw_tbl := tb_4 _ (List.mem_of_getElem? (i := 166) rfl)
set_option maxRecDepth 100000 in
theorem cw_92 : wdc 92 ∈ lw_tbl := tb_4 _ (List.mem_of_getElem? (i := 170) rfl)
set_option maxRecDepth 100000 in
theorem cw_93 : wdc 93 ∈ lw_tbl := tb_2 _ (List.mem_of_getElem? (i := 111) rfl)
set_option maxRecDepth 100000 in
theorem cw_94 : wdc 94 ∈ lw_tbl := tb_7 _ (List.mem_of_getElem? (i := 4) rfl)
set_option maxRecDepth 100000 in
theorem cw_95 : wdc 95 ∈ lw_tbl := tb_7 _ (List.mem_of_getElem? (i := 11) rfl)
set_option maxRecDepth 100000 in
theorem cw_96 : wdc 96 ∈ lw_tbl := tb_7 _ (List.mem_of_getElem? (i := 15) rfl)
set_option maxRecDepth 100000 in
theorem cw_97 : wdc 97 ∈ lw_tbl := tb_3 _ (List.mem_of_getElem? (i := 53) rfl)
set_option maxRecDepth 100000 in
theorem cw_98 : wdc 98 ∈ lw_tbl := tb_3 _ (List.mem_of_getElem? (i := 70) rfl)
set_option maxRecDepth 100000 in
theorem cw_99 : wdc 99 ∈ lw_tbl := tb_3 _ (List.mem_of_getElem? (i := 65) rfl)
set_option maxRecDepth 100000 in
theorem cw_100 : wdc 100 ∈ lw_tbl := tb_3 _ (List.mem_of_getElem? (i := 75) rfl)
set_option maxRecDepth 100000 in
theorem cw_101 : wdc 101 ∈ lw_tbl := tb_7 _ (List.mem_of_getElem? (i := 51) rfl)
set_option maxRecDepth 100000 in
theorem cw_102 : wdc 102 ∈ lw_tbl := tb_7 _ (List.mem_of_getElem? (i := 62) rfl)
set_option maxRecDepth 100000 in
theorem cw_103 : wdc 103 ∈ lw_tbl := tb_7 _ (List.mem_of_getElem? (i := 55) rfl)
set_option maxRecDepth 100000 in
theorem cw_104 : wdc 104 ∈ lw_tbl := tb_7 _ (List.mem_of_getElem? (i := 66) rfl)
set_option maxRecDepth 100000 in
theorem cw_105 : wdc 105 ∈ lw_tbl := tb_1 _ (List.mem_of_getElem? (i := 208) rfl)
set_option maxRecDepth 100000 in
theorem cw_106 : wdc 106 ∈ lw_tbl := tb_2 _ (List.mem_of_getElem? (i := 212) rfl)
set_option maxRecDepth 100000 in
theorem cw_107 : wdc 107 ∈ lw_tbl := tb_2 _ (List.mem_of_getElem? (i := 216) rfl)
set_option maxRecDepth 100000 in
theorem cw_108 : wdc 108 ∈ lw_tbl := tb_3 _ (List.mem_of_getElem? (i := 174) rfl)
set_option maxRecDepth 100000 in
theorem cw_109 : wdc 109 ∈ lw_tbl := tb_3 _ (List.mem_of_getElem? (i := 178) rfl)
set_option maxRecDepth 100000 in
theorem cw_110 : wdc 110 ∈ lw_tbl := tb_3 _ (List.mem_of_getElem? (i := 181) rfl)
set_option maxRecDepth 100000 in
theorem cw_111 : wdc 111 ∈ lw_tbl := tb_3 _ (List.mem_of_getElem? (i := 197) rfl)
set_option maxRecDepth 100000 in
theorem cw_112 : wdc 112 ∈ lw_tbl := tb_4 _ (List.mem_of_getElem? (i := 35) rfl)
set_option maxRecDepth 100000 in
theorem cw_113 : wdc 113 ∈ lw_tbl := tb_3 _ (List.mem_of_getElem? (i := 193) rfl)
set_option maxRecDepth 100000 in
theorem cw_114 : wdc 114 ∈ lw_tbl := tb_4 _ (List.mem_of_getElem? (i := 108) rfl)
set_option maxRecDepth 100000 in
theorem cw_115 : wdc 115 ∈ lw_tbl := tb_3 _ (List.mem_of_getElem? (i := 189) rfl)
set_option maxRecDepth 100000 in
theorem cw_116 : wdc 116 ∈ lw_tbl := tb_4 _ (List.mem_of_getElem? (i := 131) rfl)
set_option maxRecDepth 100000 in
theorem cw_117 : wdc 117 ∈ lw_tbl := tb_4 _ (List.mem_of_getElem? (i := 236) rfl)
set_option maxRecDepth 100000 in
theorem cw_118 : wdc 118 ∈ lw_tbl := tb_4 _ (List.mem_of_getElem? (i := 92) rfl)
set_option maxRecDepth 100000 in
theorem cw_119 : wdc 119 ∈ lw_tbl := tb_3 _ (List.mem_of_getElem? (i := 185) rfl)
set_option maxRecDepth 100000 in
theorem cw_120 : wdc 120 ∈ lw_tbl := tb_1 _ (List.mem_of_getElem? (i := 34) rfl)
set_option maxRecDepth 100000 in
theorem cw_121 : wdc 121 ∈ lw_tbl := tb_2 _ (List.mem_of_getElem? (i := 208) rfl)
set_option maxRecDepth 100000 in
theorem cw_122 : wdc 122 ∈ lw_tbl := tb_2 _ (List.mem_of_getElem? (i := 220) rfl)
set_option maxRecDepth 100000 in
theorem cw_123 : wdc 123 ∈ lw_tbl := tb_3 _ (List.mem_of_getElem? (i := 166) rfl)
set_option maxRecDepth 100000 in
theorem cw_124 : wdc 124 ∈ lw_tbl := tb_4 _ (List.mem_of_getElem? (i := 196) rfl)
set_option maxRecDepth 100000 in
theorem cw_125 : wdc 125 ∈ lw_tbl := tb_2 _ (List.mem_of_getElem? (i := 224) rfl)
set_option maxRecDepth 100000 in
theorem cw_126 : wdc 126 ∈ lw_tbl := tb_5 _ (List.mem_of_getElem? (i := 43) rfl)
set_option maxRecDepth 100000 in
theorem cw_127 : wdc 127 ∈ lw_tbl := tb_5 _ (List.mem_of_getElem? (i := 93) rfl)
set_option maxRecDepth 100000 in
theorem cw_128 : wdc 128 ∈ lw_tbl := tb_5 _ (List.mem_of_getElem? (i := 175) rfl)
set_option maxRecDepth 100000 in
theorem cw_129 : wdc 129 ∈ lw_tbl := tb_5 _ (List.mem_of_getElem? (i := 188) rfl)
set_option maxRecDepth 100000 in
theorem cw_130 : wdc 130 ∈ lw_tbl := tb_5 _ (List.mem_of_getElem? (i := 204) rfl)
set_option maxRecDepth 100000 in
theorem cw_131 : wdc 131 ∈ lw_tbl := tb_5 _ (List.mem_of_getElem? (i := 212) rfl)
set_option maxRecDepth 100000 in
theorem cw_132 : wdc 132 ∈ lw_tbl := tb_5 _ (List.mem_of_getElem? (i := 230) rfl)
set_option maxRecDepth 100000 in
theorem cw_133 : wdc 133 ∈ lw_tbl := tb_5 _ (List.mem_of_getElem? (i := 237) rfl)
set_option maxRecDepth 100000 in
theorem cw_134 : wdc 134 ∈ lw_tbl := tb_6 _ (List.mem_of_getElem? (i := 6) rfl)
set_option maxRecDepth 100000 in
theorem cw_135 : wdc 135 ∈ lw_tbl := tb_6 _ (List.mem_of_getElem? (i := 33) rfl)
set_option maxRecDepth 100000 in
theorem cw_136 : wdc 136 ∈ lw_tbl := tb_6 _ (List.mem_of_getElem? (i := 40) rfl)
set_option maxRecDepth 100000 in
theorem cw_137 : wdc 137 ∈ lw_tbl := tb_6 _ (List.mem_of_getElem? (i := 53) rfl)
set_option maxRecDepth 100000 in
theorem cw_138 : wdc 138 ∈ lw_tbl := tb_6 _ (List.mem_of_getElem? (i := 62) rfl)
set_option maxRecDepth 100000 in
theorem cw_139 : wdc 139 ∈ lw_tbl := tb_6 _ (List.mem_of_getElem? (i := 69) rfl)
set_option maxRecDepth 100000 in
theorem cw_140 : wdc 140 ∈ lw_tbl := tb_6 _ (List.mem_of_getElem? (i := 78) rfl)
set_option maxRecDepth 100000 in
theorem cw_141 : wdc 141 ∈ lw_tbl := tb_6 _ (List.mem_of_getElem? (i := 89) rfl)
set_option maxRecDepth 100000 in
theorem cw_142 : wdc 142 ∈ lw_tbl := tb_2 _ (List.mem_of_getElem? (i := 228) rfl)
set_option maxRecDepth 100000 in
theorem cw_143 : wdc 143 ∈ lw_tbl := tb_6 _ (List.mem_of_getElem? (i := 96) rfl)
set_option maxRecDepth 100000 in
theorem cw_144 : wdc 144 ∈ lw_tbl := tb_6 _ (List.mem_of_getElem? (i := 129) rfl)
set_option maxRecDepth 100000 in
theorem cw_145 : wdc 145 ∈ lw_tbl := tb_3 _ (List.mem_of_getElem? (i := 13) rfl)
set_option maxRecDepth 100000 in
theorem cw_146 : wdc 146 ∈ lw_tbl := tb_6 _ (List.mem_of_getElem? (i := 136) rfl)
set_option maxRecDepth 100000 in
theorem cw_147 : wdc 147 ∈ lw_tbl := tb_6 _ (List.mem_of_getElem? (i := 174) rfl)
set_option maxRecDepth 100000 in
theorem cw_148 : wdc 148 ∈ lw_tbl := tb_6 _ (List.mem_of_getElem? (i := 185) rfl)
set_option maxRecDepth 100000 in
theorem cw_149 : wdc 149 ∈ lw_tbl := tb_6 _ (List.mem_of_getElem? (i := 196) rfl)
set_option maxRecDepth 100000 in
theorem cw_150 : wdc 150 ∈ lw_tbl := tb_6 _ (List.mem_of_getElem? (i := 224) rfl)
set_option maxRecDepth 100000 in
theorem cw_151 : wdc 151 ∈ lw_tbl := tb_7 _ (List.mem_of_getElem? (i := 0) rfl)
set_option maxRecDepth 100000 in
theorem cw_152 : wdc 152 ∈ lw_tbl := tb_3 _ (List.mem_of_getElem? (i := 19) rfl)
set_option maxRecDepth 100000 in
theorem cw_153 : wdc 153 ∈ lw_tbl := tb_3 _ (List.mem_of_getElem? (i := 49) rfl)
set_option maxRecDepth 100000 in
theorem cw_154 : wdc 154 ∈ lw_tbl := tb_7 _ (List.mem_of_getElem? (i := 22) rfl)
set_option maxRecDepth 100000 in
theorem cw_155 : wdc 155 ∈ lw_tbl := tb_7 _ (List.mem_of_getElem? (i := 47) rfl)
set_option maxRecDepth 100000 in
theorem cw_156 : wdc 156 ∈ lw_tbl := tb_7 _ (List.mem_of_getElem? (i := 73) rfl)
set_option maxRecDepth 100000 in
theorem cw_157 : wdc 157 ∈ lw_tbl := tb_7 _ (List.mem_of_getElem? (i := 86) rfl)
set_option maxRecDepth 100000 in
theorem cw_158 : wdc 158 ∈ lw_tbl := tb_3 _ (List.mem_of_getElem? (i := 81) rfl)
set_option maxRecDepth 100000 in
theorem cw_159 : wdc 159 ∈ lw_tbl := tb_3 _ (List.mem_of_getElem? (i := 89) rfl)
set_option maxRecDepth 100000 in
theorem cw_160 : wdc 160 ∈ lw_tbl := tb_7 _ (List.mem_of_getElem? (i := 93) rfl)
set_option maxRecDepth 100000 in
theorem cw_161 : wdc 161 ∈ lw_tbl := tb_3 _ (List.mem_of_getElem? (i := 94) rfl)
set_option maxRecDepth 100000 in
theorem cw_162 : wdc 162 ∈ lw_tbl := tb_3 _ (List.mem_of_getElem? (i := 98) rfl)
set_option maxRecDepth 100000 in
theorem cw_163 : wdc 163 ∈ lw_tbl := tb_3 _ (List.mem_of_getElem? (i := 102) rfl)
set_option maxRecDepth 100000 in
theorem cw_164 : wdc 164 ∈ lw_tbl := tb_3 _ (List.mem_of_getElem? (i := 106) rfl)
set_option maxRecDepth 100000 in
theorem cw_165 : wdc 165 ∈ lw_tbl := tb_7 _ (List.mem_of_getElem? (i := 100) rfl)
set_option maxRecDepth 100000 in
theorem cw_166 : wdc 166 ∈ lw_tbl := tb_7 _ (List.mem_of_getElem? (i := 107) rfl)
set_option maxRecDepth 100000 in
theorem cw_167 : wdc 167 ∈ lw_tbl := tb_7 _ (List.mem_of_getElem? (i := 118) rfl)
set_option maxRecDepth 100000 in
theorem cw_168 : wdc 168 ∈ lw_tbl := tb_7 _ (List.mem_of_getElem? (i := 126) rfl)
set_option maxRecDepth 100000 in
theorem cw_169 : wdc 169 ∈ lw_tbl := tb_7 _ (List.mem_of_getElem? (i := 137) rfl)
set_option maxRecDepth 100000 in
theorem cw_170 : wdc 170 ∈ lw_tbl := tb_3 _ (List.mem_of_getElem? (i := 110) rfl)
set_option maxRecDepth 100000 in
theorem cw_171 : wdc 171 ∈ lw_tbl := tb_3 _ (List.mem_of_getElem? (i := 114) rfl)
set_option maxRecDepth 100000 in
theorem cw_172 : wdc 172 ∈ lw_tbl := tb_3 _ (List.mem_of_getElem? (i := 140) rfl)
set_option maxRecDepth 100000 in
theorem cw_173 : wdc 173 ∈ lw_tbl := tb_3 _ (List.mem_of_getElem? (i := 145) rfl)
set_option maxRecDepth 100000 in
theorem cw_174 : wdc 174 ∈ lw_tbl := tb_3 _ (List.mem_of_getElem? (i := 153) rfl)
set_option maxRecDepth 100000 in
theorem cw_175 : wdc 175 ∈ lw_tbl := tb_5 _ (List.mem_of_getElem? (i := 46) rfl)
set_option maxRecDepth 100000 in
theorem cw_176 : wdc 176 ∈ lw_tbl := tb_6 _ (List.mem_of_getElem? (i := 43) rfl)
set_option maxRecDepth 100000 in
theorem cw_177 : wdc 177 ∈ lw_tbl := tb_5 _ (List.mem_of_getElem? (i := 97) rfl)
set_option maxRecDepth 100000 in
theorem cw_178 : wdc 178 ∈ lw_tbl := tb_5 _ (List.mem_of_getElem? (i := 179) rfl)
set_option maxRecDepth 100000 in
theorem cw_179 : wdc 179 ∈ lw_tbl := tb_5 _ (List.mem_of_getElem? (i := 192) rfl)
set_option maxRecDepth 100000 in
theorem cw_180 : wdc 180 ∈ lw_tbl := tb_5 _ (List.mem_of_getElem? (i := 215) rfl)
set_option maxRecDepth 100000 in
theorem cw_181 : wdc 181 ∈ lw_tbl := tb_6 _ (List.mem_of_getElem? (i := 10) rfl)
set_option maxRecDepth 100000 in
theorem cw_182 : wdc 182 ∈ lw_tbl := tb_6 _ (List.mem_of_getElem? (i := 200) rfl)
set_option maxRecDepth 100000 in
theorem cw_183 : wdc 183 ∈ lw_tbl := tb_6 _ (List.mem_of_getElem? (i := 82) rfl)
set_option maxRecDepth 100000 in
theorem cw_184 : wdc 184 ∈ lw_tbl := tb_7 _ (List.mem_of_getElem? (i := 111) rfl)
set_option maxRecDepth 100000 in
theorem cw_185 : wdc 185 ∈ lw_tbl := tb_5 _ (List.mem_of_getElem? (i := 107) rfl)
set_option maxRecDepth 100000 in
theorem cw_186 : wdc 186 ∈ lw_tbl := tb_2 _ (List.mem_of_getElem? (i := 232) rfl)
set_option maxRecDepth 100000 in
theorem cw_187 : wdc 187 ∈ lw_tbl := tb_5 _ (List.mem_of_getElem? (i := 197) rfl)
set_option maxRecDepth 100000 in
theorem cw_188 : wdc 188 ∈ lw_tbl := tb_6 _ (List.mem_of_getElem? (i := 178) rfl)
set_option maxRecDepth 100000 in
theorem cw_189 : wdc 189 ∈ lw_tbl := tb_7 _ (List.mem_of_getElem? (i := 76) rfl)
set_option maxRecDepth 100000 in
theorem cw_190 : wdc 190 ∈ lw_tbl := tb_7 _ (List.mem_of_getElem? (i := 79) rfl)
set_option maxRecDepth 100000 in
theorem cw_191 : wdc 191 ∈ lw_tbl := tb_7 _ (List.mem_of_getElem? (i := 141) rfl)
set_option maxRecDepth 100000 in
theorem cw_192 : wdc 192 ∈ lw_tbl := tb_8 _ (List.mem_of_getElem? (i := 219) rfl)
set_option maxRecDepth 100000 in
theorem cw_193 : wdc 193 ∈ lw_tbl := tb_8 _ (List.mem_of_getElem? (i := 233) rfl)
set_option maxRecDepth 100000 in
theorem cw_194 : wdc 194 ∈ lw_tbl := tb_8 _ (List.mem_of_getElem? (i := 156) rfl)
set_option maxRecDepth 100000 in
theorem cw_195 : wdc 195 ∈ lw_tbl := tb_7 _ (List.mem_of_getElem? (i := 146) rfl)
set_option maxRecDepth 100000 in
theorem cw_196 : wdc 196 ∈ lw_tbl := tb_7 _ (List.mem_of_getElem? (i := 239) rfl)
set_option maxRecDepth 100000 in
theorem cw_197 : wdc 197 ∈ lw_tbl := tb_8 _ (List.mem_of_getElem? (i := 3) rfl)
set_option maxRecDepth 100000 in
theorem cw_198 : wdc 198 ∈ lw_tbl := tb_9 _ (List.mem_of_getElem? (i := 160) rfl)
set_option maxRecDepth 100000 in
theorem cw_199 : wdc 199 ∈ lw_tbl := tb_8 _ (List.mem_of_getElem? (i := 7) rfl)
set_option maxRecDepth 100000 in
theorem cw_200 : wdc 200 ∈ lw_tbl := tb_9 _ (List.mem_of_getElem? (i := 62) rfl)
set_option maxRecDepth 100000 in
theorem cw_201 : wdc 201 ∈ lw_tbl := tb_9 _ (List.mem_of_getElem? (i := 116) rfl)
set_option maxRecDepth 100000 in
theorem cw_202 : wdc 202 ∈ lw_tbl := tb_8 _ (List.mem_of_getElem? (i := 84) rfl)
set_option maxRecDepth 100000 in
theorem cw_203 : wdc 203 ∈ lw_tbl := tb_8 _ (List.mem_of_getElem? (i := 124) rfl)
set_option maxRecDepth 100000 in
theorem cw_204 : wdc 204 ∈ lw_tbl := tb_8 _ (List.mem_of_getElem? (i := 138) rfl)
set_option maxRecDepth 100000 in
theorem cw_205 : wdc 205 ∈ lw_tbl := tb_8 _ (List.mem_of_getElem? (i := 153) rfl)
set_option maxRecDepth 100000 in
theorem cw_206 : wdc 206 ∈ lw_tbl := tb_8 _ (List.mem_of_getElem? (i := 115) rfl)
set_option maxRecDepth 100000 in
theorem cw_207 : wdc 207 ∈ lw_tbl := tb_9 _ (List.mem_of_getElem? (i := 8) rfl)
set_option maxRecDepth 100000 in
theorem cw_208 : wdc 208 ∈ lw_tbl := tb_8 _ (List.mem_of_getElem? (i := 129) rfl)
set_option maxRecDepth 100000 in
theorem cw_209 : wdc 209 ∈ lw_tbl := tb_9 _ (List.mem_of_getElem? (i := 28) rfl)
set_option maxRecDepth 100000 in
theorem cw_210 : wdc 210 ∈ lw_tbl := tb_8 _ (List.mem_of_getElem? (i := 144) rfl)
set_option maxRecDepth 100000 in
theorem cw_211 : wdc 211 ∈ lw_tbl := tb_9 _ (List.mem_of_getElem? (i := 100) rfl)
set_option maxRecDepth 100000 in
theorem cw_212 : wdc 212 ∈ lw_tbl := tb_9 _ (List.mem_of_getElem? (i := 128) rfl)
set_option maxRecDepth 100000 in
theorem cw_213 : wdc 213 ∈ lw_tbl := tb_9 _ (List.mem_of_getElem? (i := 48) rfl)
set_option maxRecDepth 100000 in
theorem cw_214 : wdc 214 ∈ lw_tbl := tb_9 _ (List.mem_of_getElem? (i := 78) rfl)
set_option maxRecDepth 100000 in
theorem cw_215 : wdc 215 ∈ lw_tbl := tb_8 _ (List.mem_of_getElem? (i := 230) rfl)
set_option maxRecDepth 100000 in
theorem cw_216 : wdc 216 ∈ lw_tbl := tb_9 _ (List.mem_of_getElem? (i := 20) rfl)
set_option maxRecDepth 100000 in
theorem cw_217 : wdc 217 ∈ lw_tbl := tb_9 _ (List.mem_of_getElem? (i := 136) rfl)
set_option maxRecDepth 100000 in
theorem cw_218 : wdc 218 ∈ lw_tbl := tb_9 _ (List.mem_of_getElem? (i := 144) rfl)
set_option maxRecDepth 100000 in
theorem cw_219 : wdc 219 ∈ lw_tbl := tb_9 _ (List.mem_of_getElem? (i := 95) rfl)
set_option maxRecDepth 100000 in
theorem cw_220 : wdc 220 ∈ lw_tbl := tb_9 _ (List.mem_of_getElem? (i := 0) rfl)
set_option maxRecDepth 100000 in
theorem cw_221 : wdc 221 ∈ lw_tbl := tb_8 _ (List.mem_of_getElem? (i := 237) rfl)
set_option maxRecDepth 100000 in
theorem cw_222 : wdc 222 ∈ lw_tbl := tb_8 _ (List.mem_of_getElem? (i := 11) rfl)
set_option maxRecDepth 100000 in
theorem cw_223 : wdc 223 ∈ lw_tbl := tb_8 _ (List.mem_of_getElem? (i := 15) rfl)
set_option maxRecDepth 100000 in
theorem cw_224 : wdc 224 ∈ lw_tbl := tb_8 _ (List.mem_of_getElem? (i := 39) rfl)
set_option maxRecDepth 100000 in
theorem cw_225 : wdc 225 ∈ lw_tbl := tb_8 _ (List.mem_of_getElem? (i := 35) rfl)
set_option maxRecDepth 100000 in
theorem cw_226 : wdc 226 ∈ lw_tbl := tb_8 _ (List.mem_of_getElem? (i := 47) rfl)
set_option maxRecDepth 100000 in
theorem cw_227 : wdc 227 ∈ lw_tbl := tb_8 _ (List.mem_of_getElem? (i := 56) rfl)
set_option maxRecDepth 100000 in
theorem cw_228 : wdc 228 ∈ lw_tbl := tb_8 _ (List.mem_of_getElem? (i := 107) rfl)
set_option maxRecDepth 100000 in
theorem cw_229 : wdc 229 ∈ lw_tbl := tb_8 _ (List.mem_of_getElem? (i := 187) rfl)
set_option maxRecDepth 100000 in
theorem cw_230 : wdc 230 ∈ lw_tbl := tb_8 _ (List.mem_of_getElem? (i := 66) rfl)
set_option maxRecDepth 100000 in
theorem cw_231 : wdc 231 ∈ lw_tbl := tb_8 _ (List.mem_of_getElem? (i := 97) rfl)
set_option maxRecDepth 100000 in
theorem cw_232 : wdc 232 ∈ lw_tbl := tb_8 _ (List.mem_of_getElem? (i := 103) rfl)
set_option maxRecDepth 100000 in
theorem cw_233 : wdc 233 ∈ lw_tbl := tb_8 _ (List.mem_of_getElem? (i := 19) rfl)
set_option maxRecDepth 100000 in
theorem cw_234 : wdc 234 ∈ lw_tbl := tb_8 _ (List.mem_of_getElem? (i := 31) rfl)
set_option maxRecDepth 100000 in
theorem cw_235 : wdc 235 ∈ lw_tbl := tb_8 _ (List.mem_of_getElem? (i := 162) rfl)
set_option maxRecDepth 100000 in
theorem cw_236 : wdc 236 ∈ lw_tbl := tb_8 _ (List.mem_of_getElem? (i := 70) rfl)
set_option maxRecDepth 100000 in
theorem cw_237 : wdc 237 ∈ lw_tbl := tb_8 _ (List.mem_of_getElem? (i := 62) rfl)
set_option maxRecDepth 100000 in
theorem cw_238 : wdc 238 ∈ lw_tbl := tb_8 _ (List.mem_of_getElem? (i := 88) rfl)
set_option maxRecDepth 100000 in
theorem cw_239 : wdc 239 ∈ lw_tbl := tb_8 _ (List.mem_of_getElem? (i := 112) rfl)
set_option maxRecDepth 100000 in
theorem cw_240 : wdc 240 ∈ lw_tbl := tb_8 _ (List.mem_of_getElem? (i := 80) rfl)
set_option maxRecDepth 100000 in
theorem cw_241 : wdc 241 ∈ lw_tbl := tb_8 _ (List.mem_of_getElem? (i := 120) rfl)
set_option maxRecDepth 100000 in
theorem cw_242 : wdc 242 ∈ lw_tbl := tb_8 _ (List.mem_of_getElem? (i := 134) rfl)
set_option maxRecDepth 100000 in
theorem cw_243 : wdc 243 ∈ lw_tbl := tb_8 _ (List.mem_of_getElem? (i := 149) rfl)
set_option maxRecDepth 100000 in
theorem cw_244 : wdc 244 ∈ lw_tbl := tb_8 _ (List.mem_of_getElem? (i := 51) rfl)
set_option maxRecDepth 100000 in
theorem cw_245 : wdc 245 ∈ lw_tbl := tb_8 _ (List.mem_of_getElem? (i := 192) rfl)
set_option maxRecDepth 100000 in
theorem cw_246 : wdc 246 ∈ lw_tbl := tb_8 _ (List.mem_of_getElem? (i := 211) rfl)
set_option maxRecDepth 100000 in
theorem cw_247 : wdc 247 ∈ lw_tbl := tb_8 _ (List.mem_of_getElem? (i := 207) rfl)
set_option maxRecDepth 100000 in
theorem cw_248 : wdc 248 ∈ lw_tbl := tb_8 _ (List.mem_of_getElem? (i := 203) rfl)
set_option maxRecDepth 100000 in
theorem cw_249 : wdc 249 ∈ lw_tbl := tb_8 _ (List.mem_of_getElem? (i := 196) rfl)
set_option maxRecDepth 100000 in
theorem cw_250 : wdc 250 ∈ lw_tbl := tb_8 _ (List.mem_of_getElem? (i := 183) rfl)
set_option maxRecDepth 100000 in
theorem cw_251 : wdc 251 ∈ lw_tbl := tb_8 _ (List.mem_of_getElem? (i := 179) rfl)
set_option maxRecDepth 100000 in
theorem cw_252 : wdc 252 ∈ lw_tbl := tb_8 _ (List.mem_of_getElem? (i := 175) rfl)
set_option maxRecDepth 100000 in
theorem cw_253 : wdc 253 ∈ lw_tbl := tb_8 _ (List.mem_of_getElem? (i := 167) rfl)
set_option maxRecDepth 100000 in
theorem cw_254 : wdc 254 ∈ lw_tbl := tb_8 _ (List.mem_of_getElem? (i := 43) rfl)
set_option maxRecDepth 100000 in
theorem cw_255 : wdc 255 ∈ lw_tbl := tb_8 _ (List.mem_of_getElem? (i := 27) rfl)
set_option maxRecDepth 100000 in
theorem cw_256 : wdc 256 ∈ lw_tbl := tb_8 _ (List.mem_of_getElem? (i := 23) rfl)
set_option maxRecDepth 100000 in
theorem cw_257 : wdc 257 ∈ lw_tbl := tb_8 _ (List.mem_of_getElem? (i := 223) rfl)
set_option maxRecDepth 100000 in
theorem cw_258 : wdc 258 ∈ lw_tbl := tb_9 _ (List.mem_of_getElem? (i := 44) rfl)
set_option maxRecDepth 100000 in
theorem cw_259 : wdc 259 ∈ lw_tbl := tb_9 _ (List.mem_of_getElem? (i := 40) rfl)
set_option maxRecDepth 100000 in
theorem cw_260 : wdc 260 ∈ lw_tbl := tb_9 _ (List.mem_of_getElem? (i := 36) rfl)
set_option maxRecDepth 100000 in
theorem cw_261 : wdc 261 ∈ lw_tbl := tb_9 _ (List.mem_of_getElem? (i := 32) rfl)
set_option maxRecDepth 100000 in
theorem cw_262 : wdc 262 ∈ lw_tbl := tb_9 _ (List.mem_of_getElem? (i := 54) rfl)
set_option maxRecDepth 100000 in
theorem cw_263 : wdc 263 ∈ lw_tbl := tb_9 _ (List.mem_of_getElem? (i := 86) rfl)
set_option maxRecDepth 100000 in
theorem cw_264 : wdc 264 ∈ lw_tbl := tb_9 _ (List.mem_of_getElem? (i := 82) rfl)
set_option maxRecDepth 100000 in
theorem cw_265 : wdc 265 ∈ lw_tbl := tb_9 _ (List.mem_of_getElem? (i := 70) rfl)
set_option maxRecDepth 100000 in
theorem cw_266 : wdc 266 ∈ lw_tbl := tb_9 _ (List.mem_of_getElem? (i := 74) rfl)
set_option maxRecDepth 100000 in
theorem cw_267 : wdc 267 ∈ lw_tbl := tb_9 _ (List.mem_of_getElem? (i := 91) rfl)
set_option maxRecDepth 100000 in
theorem cw_268 : wdc 268 ∈ lw_tbl := tb_9 _ (List.mem_of_getElem? (i := 108) rfl)
set_option maxRecDepth 100000 in
theorem cw_269 : wdc 269 ∈ lw_tbl := tb_9 _ (List.mem_of_getElem? (i := 104) rfl)
set_option maxRecDepth 100000 in
theorem cw_270 : wdc 270 ∈ lw_tbl := tb_9 _ (List.mem_of_getElem? (i := 112) rfl)
set_option maxRecDepth 100000 in
theorem cw_271 : wdc 271 ∈ lw_tbl := tb_9 _ (List.mem_of_getElem? (i := 66) rfl)
set_option maxRecDepth 100000 in
theorem cw_272 : wdc 272 ∈ lw_tbl := tb_9 _ (List.mem_of_getElem? (i := 164) rfl)
set_option maxRecDepth 100000 in
theorem cw_273 : wdc 273 ∈ lw_tbl := tb_9 _ (List.mem_of_getElem? (i := 12) rfl)
set_option maxRecDepth 100000 in
theorem cw_274 : wdc 274 ∈ lw_tbl := tb_9 _ (List.mem_of_getElem? (i := 4) rfl)
set_option maxRecDepth 100000 in
theorem cw_275 : wdc 275 ∈ lw_tbl := tb_8 _ (List.mem_of_getElem? (i := 227) rfl)
set_option maxRecDepth 100000 in
theorem cw_276 : wdc 276 ∈ lw_tbl := tb_9 _ (List.mem_of_getElem? (i := 24) rfl)
set_option maxRecDepth 100000 in
theorem cw_277 : wdc 277 ∈ lw_tbl := tb_9 _ (List.mem_of_getElem? (i := 58) rfl)
set_option maxRecDepth 100000 in
theorem cw_278 : wdc 278 ∈ lw_tbl := tb_9 _ (List.mem_of_getElem? (i := 124) rfl)
set_option maxRecDepth 100000 in
theorem cw_279 : wdc 279 ∈ lw_tbl := tb_9 _ (List.mem_of_getElem? (i := 120) rfl)
set_option maxRecDepth 100000 in
theorem cw_280 : wdc 280 ∈ lw_tbl := tb_9 _ (List.mem_of_getElem? (i := 16) rfl)
set_option maxRecDepth 100000 in
theorem cw_281 : wdc 281 ∈ lw_tbl := tb_9 _ (List.mem_of_getElem? (i := 132) rfl)
set_option maxRecDepth 100000 in
theorem cw_282 : wdc 282 ∈ lw_tbl := tb_9 _ (List.mem_of_getElem? (i := 148) rfl)
set_option maxRecDepth 100000 in
theorem cw_283 : wdc 283 ∈ lw_tbl := tb_9 _ (List.mem_of_getElem? (i := 140) rfl)
set_option maxRecDepth 100000 in
theorem cw_284 : wdc 284 ∈ lw_tbl := tb_9 _ (List.mem_of_getElem? (i := 152) rfl)
set_option maxRecDepth 100000 in
theorem cw_285 : wdc 285 ∈ lw_tbl := tb_9 _ (List.mem_of_getElem? (i := 156) rfl)
set_option maxRecDepth 100000 in
theorem cw_286 : wdc 286 ∈ lw_tbl := tb_9 _ (List.mem_of_getElem? (i := 172) rfl)
set_option maxRecDepth 100000 in
theorem cw_287 : wdc 287 ∈ lw_tbl := tb_9 _ (List.mem_of_getElem? (i := 168) rfl)
set_option maxRecDepth 100000 in
theorem cw_288 : wdc 288 ∈ lw_tbl := tb_9 _ (List.mem_of_getElem? (i := 176) rfl)
set_option maxRecDepth 100000 in
theorem cw_289 : wdc 289 ∈ lw_tbl := tb_9 _ (List.mem_of_getElem? (i := 180) rfl)
set_option maxRecDepth 100000 in
theorem cw_290 : wdc 290 ∈ lw_tbl := tb_9 _ (List.mem_of_getElem? (i := 184) rfl)
set_option maxRecDepth 100000 in
theorem cw_291 : wdc 291 ∈ lw_tbl := tb_9 _ (List.mem_of_getElem? (i := 188) rfl)
set_option maxRecDepth 100000 in
theorem cw_292 : wdc 292 ∈ lw_tbl := tb_9 _ (List.mem_of_getElem? (i := 192) rfl)
set_option maxRecDepth 100000 in
theorem cw_293 : wdc 293 ∈ lw_tbl := tb_9 _ (List.mem_of_getElem? (i := 196) rfl)
set_option maxRecDepth 100000 in
theorem cw_294 : wdc 294 ∈ lw_tbl := tb_9 _ (List.mem_of_getElem? (i := 200) rfl)
set_option maxRecDepth 100000 in
theorem cw_295 : wdc 295 ∈ lw_tbl := tb_9 _ (List.mem_of_getElem? (i := 207) rfl)
set_option maxRecDepth 100000 in
theorem cw_296 : wdc 296 ∈ lw_tbl := tb_9 _ (List.mem_of_getElem? (i := 204) rfl)
set_option maxRecDepth 100000 in
theorem cw_297 : wdc 297 ∈ lw_tbl := tb_9 _ (List.mem_of_getElem? (i := 218) rfl)
set_option maxRecDepth 100000 in
theorem cw_298 : wdc 298 ∈ lw_tbl := tb_9 _ (List.mem_of_getElem? (i := 215) rfl)
set_option maxRecDepth 100000 in
theorem cw_299 : wdc 299 ∈ lw_tbl := tb_9 _ (List.mem_of_getElem? (i := 211) rfl)
set_option maxRecDepth 100000 in
theorem cw_300 : wdc 300 ∈ lw_tbl := tb_9 _ (List.mem_of_getElem? (i := 223) rfl)
set_option maxRecDepth 100000 in
theorem cw_301 : wdc 301 ∈ lw_tbl := tb_9 _ (List.mem_of_getElem? (i := 239) rfl)
set_option maxRecDepth 100000 in
theorem cw_302 : wdc 302 ∈ lw_tbl := tb_10 _ (List.mem_of_getElem? (i := 6) rfl)
set_option maxRecDepth 100000 in
theorem cw_303 : wdc 303 ∈ lw_tbl := tb_10 _ (List.mem_of_getElem? (i := 2) rfl)
set_option maxRecDepth 100000 in
theorem cw_304 : wdc 304 ∈ lw_tbl := tb_9 _ (List.mem_of_getElem? (i := 235) rfl)
set_option maxRecDepth 100000 in
theorem cw_305 : wdc 305 ∈ lw_tbl := tb_9 _ (List.mem_of_getElem? (i := 231) rfl)
set_option maxRecDepth 100000 in
theorem cw_306 : wdc 306 ∈ lw_tbl := tb_9 _ (List.mem_of_getElem? (i := 227) rfl)
set_option maxRecDepth 100000 in
theorem cw_307 : wdc 307 ∈ lw_tbl := tb_10 _ (List.mem_of_getElem? (i := 10) rfl)
set_option maxRecDepth 100000 in
theorem cw_308 : wdc 308 ∈ lw_tbl := tb_10 _ (List.mem_of_getElem? (i := 18) rfl)
set_option maxRecDepth 100000 in
theorem cw_309 : wdc 309 ∈ lw_tbl := tb_10 _ (List.mem_of_getElem? (i := 14) rfl)
set_option maxRecDepth 100000 in
theorem cw_310 : wdc 310 ∈ lw_tbl := tb_10 _ (List.mem_of_getElem? (i := 33) rfl)
set_option maxRecDepth 100000 in
theorem cw_311 : wdc 311 ∈ lw_tbl := tb_10 _ (List.mem_of_getElem? (i := 29) rfl)
set_option maxRecDepth 100000 in
theorem cw_312 : wdc 312 ∈ lw_tbl := tb_10 _ (List.mem_of_getElem? (i := 26) rfl)
set_option maxRecDepth 100000 in
theorem cw_313 : wdc 313 ∈ lw_tbl := tb_10 _ (List.mem_of_getElem? (i := 22) rfl)
set_option maxRecDepth 100000 in
theorem cw_314 : wdc 314 ∈ lw_tbl := tb_10 _ (List.mem_of_getElem? (i := 40) rfl)
set_option maxRecDepth 100000 in
theorem cw_315 : wdc 315 ∈ lw_tbl := tb_10 _ (List.mem_of_getElem? (i := 37) rfl)
set_option maxRecDepth 100000 in
theorem cw_316 : wdc 316 ∈ lw_tbl := tb_10 _ (List.mem_of_getElem? (i := 44) rfl)
set_option maxRecDepth 100000 in
theorem cw_317 : wdc 317 ∈ lw_tbl := tb_10 _ (List.mem_of_getElem? (i := 52) rfl)
set_option maxRecDepth 100000 in
theorem cw_318 : wdc 318 ∈ lw_tbl := tb_10 _ (List.mem_of_getElem? (i := 59) rfl)
set_option maxRecDepth 100000 in
theorem cw_319 : wdc 319 ∈ lw_tbl := tb_10 _ (List.mem_of_getElem? (i := 56) rfl)
set_option maxRecDepth 100000 in
theorem cw_320 : wdc 320 ∈ lw_tbl := tb_10 _ (List.mem_of_getElem? (i := 48) rfl)
set_option maxRecDepth 100000 in
theorem cw_321 : wdc 321 ∈ lw_tbl := tb_10 _ (List.mem_of_getElem? (i := 67) rfl)
set_option maxRecDepth 100000 in
theorem cw_322 : wdc 322 ∈ lw_tbl := tb_10 _ (List.mem_of_getElem? (i := 63) rfl)
set_option maxRecDepth 100000 in
theorem cw_323 : wdc 323 ∈ lw_tbl := tb_10 _ (List.mem_of_getElem? (i := 74) rfl)
set_option maxRecDepth 100000 in
theorem cw_324 : wdc 324 ∈ lw_tbl := tb_10 _ (List.mem_of_getElem? (i := 78) rfl)
set_option maxRecDepth 100000 in
theorem cw_325 : wdc 325 ∈ lw_tbl := tb_10 _ (List.mem_of_getElem? (i := 71) rfl)
set_option maxRecDepth 100000 in
theorem cw_326 : wdc 326 ∈ lw_tbl := tb_10 _ (List.mem_of_getElem? (i := 82) rfl)
set_option maxRecDepth 100000 in
theorem cw_327 : wdc 327 ∈ lw_tbl := tb_10 _ (List.mem_of_getElem? (i := 94) rfl)
set_option maxRecDepth 100000 in
theorem cw_328 : wdc 328 ∈ lw_tbl := tb_10 _ (List.mem_of_getElem? (i := 90) rfl)
set_option maxRecDepth 100000 in
theorem cw_329 : wdc 329 ∈ lw_tbl := tb_10 _ (List.mem_of_getElem? (i := 86) rfl)
set_option maxRecDepth 100000 in
theorem cw_330 : wdc 330 ∈ lw_tbl := tb_10 _ (List.mem_of_getElem? (i := 101) rfl)
set_option maxRecDepth 100000 in
theorem cw_331 : wdc 331 ∈ lw_tbl := tb_10 _ (List.mem_of_getElem? (i := 109) rfl)
set_option maxRecDepth 100000 in
theorem cw_332 : wdc 332 ∈ lw_tbl := tb_10 _ (List.mem_of_getElem? (i := 105) rfl)
set_option maxRecDepth 100000 in
theorem cw_333 : wdc 333 ∈ lw_tbl := tb_10 _ (List.mem_of_getElem? (i := 98) rfl)
set_option maxRecDepth 100000 in
theorem cw_334 : wdc 334 ∈ lw_tbl := tb_10 _ (List.mem_of_getElem? (i := 124) rfl)
set_option maxRecDepth 100000 in
theorem cw_335 : wdc 335 ∈ lw_tbl := tb_10 _ (List.mem_of_getElem? (i := 121) rfl)
set_option maxRecDepth 100000 in
theorem cw_336 : wdc 336 ∈ lw_tbl := tb_10 _ (List.mem_of_getElem? (i := 117) rfl)
set_option maxRecDepth 100000 in
theorem cw_337 : wdc 337 ∈ lw_tbl := tb_10 _ (List.mem_of_getElem? (i := 113) rfl)
set_option maxRecDepth 100000 in
theorem cw_338 : wdc 338 ∈ lw_tbl := tb_10 _ (List.mem_of_getElem? (i := 136) rfl)
set_option maxRecDepth 100000 in
theorem cw_339 : wdc 339 ∈ lw_tbl := tb_10 _ (List.mem_of_getElem? (i := 140) rfl)
set_option maxRecDepth 100000 in
theorem cw_340 : wdc 340 ∈ lw_tbl := tb_10 _ (List.mem_of_getElem? (i := 132) rfl)
set_option maxRecDepth 100000 in
theorem cw_341 : wdc 341 ∈ lw_tbl := tb_10 _ (List.mem_of_getElem? (i := 144) rfl)
set_option maxRecDepth 100000 in
theorem cw_342 : wdc 342 ∈ lw_tbl := tb_10 _ (List.mem_of_getElem? (i := 148) rfl)
set_option maxRecDepth 100000 in
theorem cw_343 : wdc 343 ∈ lw_tbl := tb_10 _ (List.mem_of_getElem? (i := 152) rfl)
set_option maxRecDepth 100000 in
theorem cw_344 : wdc 344 ∈ lw_tbl := tb_10 _ (List.mem_of_getElem? (i := 156) rfl)
set_option maxRecDepth 100000 in
theorem cw_345 : wdc 345 ∈ lw_tbl := tb_10 _ (List.mem_of_getElem? (i := 160) rfl)
set_option maxRecDepth 100000 in
theorem cw_346 : wdc 346 ∈ lw_tbl := tb_10 _ (List.mem_of_getElem? (i := 164) rfl)
set_option maxRecDepth 100000 in
theorem cw_347 : wdc 347 ∈ lw_tbl := tb_10 _ (List.mem_of_getElem? (i := 168) rfl)
set_option maxRecDepth 100000 in
theorem cw_348 : wdc 348 ∈ lw_tbl := tb_10 _ (List.mem_of_getElem? (i := 172) rfl)
set_option maxRecDepth 100000 in
theorem cw_349 : wdc 349 ∈ lw_tbl := tb_10 _ (List.mem_of_getElem? (i := 176) rfl)
set_option maxRecDepth 100000 in
theorem cw_350 : wdc 350 ∈ lw_tbl := tb_10 _ (List.mem_of_getElem? (i := 180) rfl)
set_option maxRecDepth 100000 in
theorem cw_351 : wdc 351 ∈ lw_tbl := tb_10 _ (List.mem_of_getElem? (i := 184) rfl)
set_option maxRecDepth 100000 in
theorem cw_352 : wdc 352 ∈ lw_tbl := tb_10 _ (List.mem_of_getElem? (i := 192) rfl)
set_option maxRecDepth 100000 in
theorem cw_353 : wdc 353 ∈ lw_tbl := tb_10 _ (List.mem_of_getElem? (i := 188) rfl)
set_option maxRecDepth 100000 in
theorem cw_354 : wdc 354 ∈ lw_tbl := tb_10 _ (List.mem_of_getElem? (i := 196) rfl)
set_option maxRecDepth 100000 in
theorem cw_355 : wdc 355 ∈ lw_tbl := tb_10 _ (List.mem_of_getElem? (i := 200) rfl)
set_option maxRecDepth 100000 in
theorem cw_356 : wdc 356 ∈ lw_tbl := tb_10 _ (List.mem_of_getElem? (i := 204) rfl)
set_option maxRecDepth 100000 in
theorem cw_357 : wdc 357 ∈ lw_tbl := tb_4 _ (List.mem_of_getElem? (i := 39) rfl)
set_option maxRecDepth 100000 in
theorem cw_358 : wdc 358 ∈ lw_tbl := tb_4 _ (List.mem_of_getElem? (i := 49) rfl)
set_option maxRecDepth 100000 in
theorem cw_359 : wdc 359 ∈ lw_tbl := tb_4 _ (List.mem_of_getElem? (i := 43) rfl)
set_option maxRecDepth 100000 in
theorem cw_360 : wdc 360 ∈ lw_tbl := tb_4 _ (List.mem_of_getElem? (i := 53) rfl)
set_option maxRecDepth 100000 in
theorem cw_361 : wdc 361 ∈ lw_tbl := tb_4 _ (List.mem_of_getElem? (i := 59) rfl)
set_option maxRecDepth 100000 in
theorem cw_362 : wdc 362 ∈ lw_tbl := tb_4 _ (List.mem_of_getElem? (i := 56) rfl)
set_option maxRecDepth 100000 in
theorem cw_363 : wdc 363 ∈ lw_tbl := tb_4 _ (List.mem_of_getElem? (i := 64) rfl)
set_option maxRecDepth 100000 in
theorem cw_364 : wdc 364 ∈ lw_tbl := tb_3 _ (List.mem_of_getElem? (i := 34) rfl)
set_option maxRecDepth 100000 in
theorem cw_365 : wdc 365 ∈ lw_tbl := tb_10 _ (List.mem_of_getElem? (i := 127) rfl)
set_option maxRecDepth 100000 in
theorem cw_366 : wdc 366 ∈ lw_tbl := tb_3 _ (List.mem_of_getElem? (i := 2) rfl)
set_option maxRecDepth 100000 in
theorem cw_367 : wdc 367 ∈ lw_tbl := tb_3 _ (List.mem_of_getElem? (i := 61) rfl)
set_option maxRecDepth 100000 in
theorem cw_368 : wdc 368 ∈ lw_tbl := tb_3 _ (List.mem_of_getElem? (i := 131) rfl)
set_option maxRecDepth 100000 in
theorem cw_369 : wdc 369 ∈ lw_tbl := tb_1 _ (List.mem_of_getElem? (i := 92) rfl)
set_option maxRecDepth 100000 in
theorem cw_370 : wdc 370 ∈ lw_tbl := tb_5 _ (List.mem_of_getElem? (i := 25) rfl)
set_option maxRecDepth 100000 in
theorem cw_371 : wdc 371 ∈ lw_tbl := tb_3 _ (List.mem_of_getElem? (i := 160) rfl)
set_option maxRecDepth 100000 in
theorem cw_372 : wdc 372 ∈ lw_tbl := tb_4 _ (List.mem_of_getElem? (i := 192) rfl)
set_option maxRecDepth 100000 in
theorem cw_373 : wdc 373 ∈ lw_tbl := tb_5 _ (List.mem_of_getElem? (i := 37) rfl)
set_option maxRecDepth 100000 in
theorem cw_374 : wdc 374 ∈ lw_tbl := tb_5 _ (List.mem_of_getElem? (i := 89) rfl)
set_option maxRecDepth 100000 in
theorem cw_375 : wdc 375 ∈ lw_tbl := tb_5 _ (List.mem_of_getElem? (i := 171) rfl)
set_option maxRecDepth 100000 in
theorem cw_376 : wdc 376 ∈ lw_tbl := tb_5 _ (List.mem_of_getElem? (i := 184) rfl)
set_option maxRecDepth 100000 in
theorem cw_377 : wdc 377 ∈ lw_tbl := tb_5 _ (List.mem_of_getElem? (i := 200) rfl)
set_option maxRecDepth 100000 in
theorem cw_378 : wdc 378 ∈ lw_tbl := tb_5 _ (List.mem_of_getElem? (i := 208) rfl)
set_option maxRecDepth 100000 in
theorem cw_379 : wdc 379 ∈ lw_tbl := tb_5 _ (List.mem_of_getElem? (i := 226) rfl)
set_option maxRecDepth 100000 in
theorem cw_380 : wdc 380 ∈ lw_tbl := tb_5 _ (List.mem_of_getElem? (i := 233) rfl)
set_option maxRecDepth 100000 in
theorem cw_381 : wdc 381 ∈ lw_tbl := tb_6 _ (List.mem_of_getElem? (i := 1) rfl)
set_option maxRecDepth 100000 in
theorem cw_382 : wdc 382 ∈ lw_tbl := tb_6 _ (List.mem_of_getElem? (i := 29) rfl)
set_option maxRecDepth 100000 in
theorem cw_383 : wdc 383 ∈ lw_tbl := tb_6 _ (List.mem_of_getElem? (i := 36) rfl)
set_option maxRecDepth 100000 in
theorem cw_384 : wdc 384 ∈ lw_tbl := tb_6 _ (List.mem_of_getElem? (i := 49) rfl)
set_option maxRecDepth 100000 in
theorem cw_385 : wdc 385 ∈ lw_tbl := tb_6 _ (List.mem_of_getElem? (i := 58) rfl)
set_option maxRecDepth 100000 in
theorem cw_386 : wdc 386 ∈ lw_tbl := tb_6 _ (List.mem_of_getElem? (i := 65) rfl)
set_option maxRecDepth 100000 in
theorem cw_387 : wdc 387 ∈ lw_tbl := tb_6 _ (List.mem_of_getElem? (i := 74) rfl)
set_option maxRecDepth 100000 in
theorem cw_388 : wdc 388 ∈ lw_tbl := tb_6 _ (List.mem_of_getElem? (i := 85) rfl)
set_option maxRecDepth 100000 in
theorem cw_389 : wdc 389 ∈ lw_tbl := tb_6 _ (List.mem_of_getElem? (i := 92) rfl)
set_option maxRecDepth 100000 in
theorem cw_390 : wdc 390 ∈ lw_tbl := tb_6 _ (List.mem_of_getElem? (i := 125) rfl)
set_option maxRecDepth 100000 in
theorem cw_391 : wdc 391 ∈ lw_tbl := tb_6 _ (List.mem_of_getElem? (i := 132) rfl)
set_option maxRecDepth 100000 in
theorem cw_392 : wdc 392 ∈ lw_tbl := tb_6 _ (List.mem_of_getElem? (i := 170) rfl)
set_option maxRecDepth 100000 in
theorem cw_393 : wdc 393 ∈ lw_tbl := tb_6 _ (List.mem_of_getElem? (i := 181) rfl)
set_option maxRecDepth 100000 in
theorem cw_394 : wdc 394 ∈ lw_tbl := tb_6 _ (List.mem_of_getElem? (i := 192) rfl)
set_option maxRecDepth 100000 in
theorem cw_395 : wdc 395 ∈ lw_tbl := tb_6 _ (List.mem_of_getElem? (i := 220) rfl)
set_option maxRecDepth 100000 in
theorem cw_396 : wdc 396 ∈ lw_tbl := tb_6 _ (List.mem_of_getElem? (i := 236) rfl)
set_option maxRecDepth 100000 in
theorem cw_397 : wdc 397 ∈ lw_tbl := tb_7 _ (List.mem_of_getElem? (i := 18) rfl)
set_option maxRecDepth 100000 in
theorem cw_398 : wdc 398 ∈ lw_tbl := tb_7 _ (List.mem_of_getElem? (i := 43) rfl)
set_option maxRecDepth 100000 in
theorem cw_399 : wdc 399 ∈ lw_tbl := tb_7 _ (List.mem_of_getElem? (i := 69) rfl)
set_option maxRecDepth 100000 in
theorem cw_400 : wdc 400 ∈ lw_tbl := tb_7 _ (List.mem_of_getElem? (i := 82) rfl)
set_option maxRecDepth 100000 in
theorem cw_401 : wdc 401 ∈ lw_tbl := tb_7 _ (List.mem_of_getElem? (i := 89) rfl)
set_option maxRecDepth 100000 in
theorem cw_402 : wdc 402 ∈ lw_tbl := tb_7 _ (List.mem_of_getElem? (i := 96) rfl)
set_option maxRecDepth 100000 in
theorem cw_403 : wdc 403 ∈ lw_tbl := tb_7 _ (List.mem_of_getElem? (i := 103) rfl)
set_option maxRecDepth 100000 in
theorem cw_404 : wdc 404 ∈ lw_tbl := tb_7 _ (List.mem_of_getElem? (i := 114) rfl)
set_option maxRecDepth 100000 in
theorem cw_405 : wdc 405 ∈ lw_tbl := tb_7 _ (List.mem_of_getElem? (i := 122) rfl)
set_option maxRecDepth 100000 in
theorem cw_406 : wdc 406 ∈ lw_tbl := tb_7 _ (List.mem_of_getElem? (i := 133) rfl)
theorem cwc_0 : ∀ y ∈ [0, 1, 2, 3, 4, 5, 6, 7, 8, 9, 10, 11, 12, 13, 14, 15, 16, 17, 18, 19], wdc y ∈ lw_tbl := List.forall_mem_cons.mpr ⟨cw_0, List.forall_mem_cons.mpr ⟨cw_1, List.forall_mem_cons.mpr ⟨cw_2, List.forall_mem_cons.mpr ⟨cw_3, List.forall_mem_cons.mpr ⟨cw_4, List.forall_mem_cons.mpr ⟨cw_5, List.forall_mem_cons.mpr ⟨cw_6, List.forall_mem_cons.mpr ⟨cw_7, List.forall_mem_cons.mpr ⟨cw_8, List.forall_mem_cons.mpr ⟨cw_9, List.forall_mem_cons.mpr ⟨cw_10, List.forall_mem_cons.mpr ⟨cw_11, List.forall_mem_cons.mpr ⟨cw_12, List.forall_mem_cons.mpr ⟨cw_13, List.forall_mem_cons.mpr ⟨cw_14, List.forall_mem_cons.mpr ⟨cw_15, List.forall_mem_cons.mpr ⟨cw_16, List.forall_mem_cons.mpr ⟨cw_17, List.forall_mem_cons.mpr ⟨cw_18, List.forall_mem_cons.mpr ⟨cw_19, fun _ h => absurd h List.not_mem_nil⟩⟩⟩⟩⟩⟩⟩⟩⟩⟩⟩⟩⟩⟩⟩⟩⟩⟩⟩⟩
theorem cwc_1 : ∀ y ∈ [20, 21, 22, 23, 24, 25, 26, 27, 28, 29, 30, 31, 32, 33, 34, 35, 36, 37, 38, 39], wdc y ∈ lw_tbl := List.forall_mem_cons.mpr ⟨cw_20, List.forall_mem_cons.mpr ⟨cw_21, List.forall_mem_cons.mpr ⟨cw_22, List.forall_mem_cons.mpr ⟨cw_23, List.forall_mem_cons.mpr ⟨cw_24, List.forall_mem_cons.mpr ⟨cw_25, List.forall_mem_cons.mpr ⟨cw_26, List.forall_mem_cons.mpr ⟨cw_27, List.forall_mem_cons.mpr ⟨cw_28, List.forall_mem_cons.mpr ⟨cw_29, List.forall_mem_cons.mpr ⟨cw_30, List.forall_mem_cons.mpr ⟨cw_31, List.forall_mem_cons.mpr ⟨cw_32, List.forall_mem_cons.mpr ⟨cw_33, List.forall_mem_cons.mpr ⟨cw_34, List.forall_mem_cons.mpr ⟨cw_35, List.forall_mem_cons.mpr ⟨cw_36, List.forall_mem_cons.mpr ⟨cw_37, List.forall_mem_cons.mpr ⟨cw_38, List.forall_mem_cons.mpr ⟨cw_39, fun _ h => absurd h List.not_mem_nil⟩⟩⟩⟩⟩⟩⟩⟩⟩⟩⟩⟩⟩⟩⟩⟩⟩⟩⟩⟩
theorem cwc_2 : ∀ y ∈ [40, 41, 42, 43, 44, 45, 46, 47, 48, 49, 50, 51, 52, 53, 54, 55, 56, 57, 58, 59], wdc y ∈ lw_tbl := List.forall_mem_cons.mpr ⟨cw_40, List.forall_mem_cons.mpr ⟨cw_41, List.forall_mem_cons.mpr ⟨cw_42, List.forall_mem_cons.mpr ⟨cw_43, List.forall_mem_cons.mpr ⟨cw_44, List.forall_mem_cons.mpr ⟨cw_45, List.forall_mem_cons.mpr ⟨cw_46, List.forall_mem_cons.mpr ⟨cw_47, List.forall_mem_cons.mpr ⟨cw_48, List.forall_mem_cons.mpr ⟨cw_49, List.forall_mem_cons.mpr ⟨cw_50, List.forall_mem_cons.mpr ⟨cw_51, List.forall_mem_cons.mpr ⟨cw_52, List.forall_mem_cons.mpr ⟨cw_53, List.forall_mem_cons.mpr ⟨cw_54, List.forall_mem_cons.mpr ⟨cw_55, List.forall_mem_cons.mpr ⟨cw_56, List.forall_mem_cons.mpr ⟨cw_57, List.forall_mem_cons.mpr ⟨cw_58, List.forall_mem_cons.mpr ⟨cw_59, fun _ h => absurd h List.not_mem_nil⟩⟩⟩⟩⟩⟩⟩⟩⟩⟩⟩⟩⟩⟩⟩⟩⟩⟩⟩⟩
theorem cwc_3 : ∀ y ∈ [60, 61, 62, 63, 64, 65, 66, 67, 68, 69, 70, 71, 72, 73, 74, 75, 76, 77, 78, 79], wdc y ∈ lw_tbl := List.forall_mem_cons.mpr ⟨cw_60, List.forall_mem_cons.mpr ⟨cw_61, List.forall_mem_cons.mpr ⟨cw_62, List.forall_mem_cons.mpr ⟨cw_63, List.forall_mem_cons.mpr ⟨cw_64, List.forall_mem_cons.mpr ⟨cw_65, List.forall_mem_cons.mpr ⟨cw_66, List.forall_mem_cons.mpr ⟨cw_67, List.forall_mem_cons.mpr ⟨cw_68, List.forall_mem_cons.mpr ⟨cw_69, List.forall_mem_cons.mpr ⟨cw_70, List.forall_mem_cons.mpr ⟨cw_71, List.forall_mem_cons.mpr ⟨cw_72, List.forall_mem_cons.mpr ⟨cw_73, List.forall_mem_cons.mpr ⟨cw_74, List.forall_mem_cons.mpr ⟨cw_75, List.forall_mem_cons.mpr ⟨cw_76, List.forall_mem_cons.mpr ⟨cw_77, List.forall_mem_cons.mpr ⟨cw_78, List.forall_mem_cons.mpr ⟨cw_79, fun _ h => absurd h List.not_mem_nil⟩⟩⟩⟩⟩⟩⟩⟩⟩⟩⟩⟩⟩⟩⟩⟩⟩⟩⟩⟩
theorem cwc_4 : ∀ y ∈ [80, 81, 82, 83, 84, 85, 86, 87, 88, 89, 90, 91, 92, 93, 94, 95, 96, 97, 98, 99], wdc y ∈ lw_tbl := List.forall_mem_cons.mpr ⟨cw_80, List.forall_mem_cons.mpr ⟨cw_81, List.forall_mem_cons.mpr ⟨cw_82, List.forall_mem_cons.mpr ⟨cw_83, List.forall_mem_cons.mpr ⟨cw_84, List.forall_mem_cons.mpr ⟨cw_85, List.forall_mem_cons.mpr ⟨cw_86, List.forall_mem_cons.mpr ⟨cw_87, List.forall_mem_cons.mpr ⟨cw_88, List.forall_mem_cons.mpr ⟨cw_89, List.forall_mem_cons.mpr ⟨cw_90, List.forall_mem_cons.mpr ⟨cw_91, List.forall_mem_cons.mpr ⟨cw_92, List.forall_mem_cons.mpr ⟨cw_93, List.forall_mem_cons.mpr ⟨cw_94, List.forall_mem_cons.mpr ⟨cw_95, List.forall_mem_cons.mpr ⟨cw_96, List.forall_mem_cons.mpr ⟨cw_97, List.forall_mem_cons.mpr ⟨cw_98, List.forall_mem_cons.mpr ⟨cw_99, fun _ h => absurd h List.not_mem_nil⟩⟩⟩⟩⟩⟩⟩⟩⟩⟩⟩⟩⟩⟩⟩⟩⟩⟩⟩⟩
theorem cwc_5 : ∀ y ∈ [100, 101, 102, 103, 104, 105, 106, 107, 108, 109, 110, 111, 112, 113, 114, 115, 116, 117, 118, 119], wdc y ∈ lw_tbl := List.forall_mem_cons.mpr ⟨cw_100, List.forall_mem_cons.mpr ⟨cw_101, List.forall_mem_cons.mpr ⟨cw_102, List.forall_mem_cons.mpr ⟨cw_103, List.forall_mem_cons.mpr ⟨cw_104, List.forall_mem_cons.mpr ⟨cw_105, List.forall_mem_cons.mpr ⟨cw_106, List.forall_mem_cons.mpr ⟨cw_107, List.forall_mem_cons.mpr ⟨cw_108, List.forall_mem_cons.mpr ⟨cw_109, List.forall_mem_cons.mpr ⟨cw_110, List.forall_mem_cons.mpr ⟨cw_111, List.forall_mem_cons.mpr ⟨cw_112, List.forall_mem_cons.mpr ⟨cw_113, List.forall_mem_cons.mpr ⟨cw_114, List.forall_mem_cons.mpr ⟨cw_115, List.forall_mem_cons.mpr ⟨cw_116, List.forall_mem_cons.mpr ⟨cw_117, List.forall_mem_cons.mpr ⟨cw_118, List.forall_mem_cons.mpr ⟨cw_119, fun _ h => absurd h List.not_mem_nil⟩⟩⟩⟩⟩⟩⟩⟩⟩⟩⟩⟩⟩⟩⟩⟩⟩⟩⟩⟩
theorem cwc_6 : ∀ y ∈ [120, 121, 122, 123, 124, 125, 126, 127, 128, 129, 130, 131, 132, 133, 134, 135, 136, 137, 138, 139], wdc y ∈ lw_tbl := List.forall_mem_cons.mpr ⟨cw_120, List.forall_mem_cons.mpr ⟨cw_121, List.forall_mem_cons.mpr ⟨cw_122, List.forall_mem_cons.mpr ⟨cw_123, List.forall_mem_cons.mpr ⟨cw_124, List.forall_mem_cons.mpr ⟨cw_125, List.forall_mem_cons.mpr ⟨cw_126, List.forall_mem_cons.mpr ⟨cw_127, List.forall_mem_cons.mpr ⟨cw_128, List.forall_mem_cons.mpr ⟨cw_129, List.forall_mem_cons.mpr ⟨cw_130, List.forall_mem_cons.mpr ⟨cw_131, List.forall_mem_cons.mpr ⟨cw_132, List.forall_mem_cons.mpr ⟨cw_133, List.forall_mem_cons.mpr ⟨cw_134, List.forall_mem_cons.mpr ⟨cw_135, List.forall_mem_cons.mpr ⟨cw_136, List.forall_mem_cons.mpr ⟨cw_137, List.forall_mem_cons.mpr ⟨cw_138, List.forall_mem_cons.mpr ⟨cw_139, fun _ h => absurd h List.not_mem_nil⟩⟩⟩⟩⟩⟩⟩⟩⟩⟩⟩⟩⟩⟩⟩⟩⟩⟩⟩⟩
theorem cwc_7 : ∀ y ∈ [140, 141, 142, 143, 144, 145, 146, 147, 148, 149, 150, 151, 152, 153, 154, 155, 156, 157, 158, 159], wdc y ∈ lw_tbl := List.forall_mem_cons.mpr ⟨cw_140, List.forall_mem_cons.mpr ⟨cw_141, List.forall_mem_cons.mpr ⟨cw_142, List.forall_mem_cons.mpr ⟨cw_143, List.forall_mem_cons.mpr ⟨cw_144, List.forall_mem_cons.mpr ⟨cw_145, List.forall_mem_cons.mpr ⟨cw_146, List.forall_mem_cons.mpr ⟨cw_147, List.forall_mem_cons.mpr ⟨cw_148, List.forall_mem_cons.mpr ⟨cw_149, List.forall_mem_cons.mpr ⟨cw_150, List.forall_mem_cons.mpr ⟨cw_151, List.forall_mem_cons.mpr ⟨cw_152, List.forall_mem_cons.mpr ⟨cw_153, List.forall_mem_cons.mpr ⟨cw_154, List.forall_mem_cons.mpr ⟨cw_155, List.forall_mem_cons.mpr ⟨cw_156, List.forall_mem_cons.mpr ⟨cw_157, List.forall_mem_cons.mpr ⟨cw_158, List.forall_mem_cons.mpr ⟨cw_159, fun _ h => absurd h List.not_mem_nil⟩⟩⟩⟩⟩⟩⟩⟩⟩⟩⟩⟩⟩⟩⟩⟩⟩⟩⟩⟩
theorem cwc_8 : ∀ y ∈ [160, 161, 162, 163, 164, 165, 166, 167, 168, 169, 170, 171, 172, 173, 174, 175, 176, 177, 178, 179], wdc y ∈ lw_tbl := List.forall_mem_cons.mpr ⟨cw_160, List.forall_mem_cons.mpr ⟨cw_161, List.forall_mem_cons.mpr ⟨cw_162, List.forall_mem_cons.mpr ⟨cw_163, List.forall_mem_cons.mpr ⟨cw_164, List.forall_mem_cons.mpr ⟨cw_165, List.forall_mem_cons.mpr ⟨cw_166, List.forall_mem_cons.mpr ⟨cw_167, List.forall_mem_cons.mpr ⟨cw_168, List.forall_mem_cons.mpr ⟨cw_169, List.forall_mem_cons.mpr ⟨cw_170, List.forall_mem_cons.mpr ⟨cw_171, List.forall_mem_cons.mpr ⟨cw_172, List.forall_mem_cons.mpr ⟨cw_173, List.forall_mem_cons.mpr ⟨cw_174, List.forall_mem_cons.mpr ⟨cw_175, List.forall_mem_cons.mpr ⟨cw_176, List.forall_mem_cons.mpr ⟨cw_177, List.forall_mem_cons.mpr ⟨cw_178, List.forall_mem_cons.mpr ⟨cw_179, fun _ h => absurd h List.not_mem_nil⟩⟩⟩⟩⟩⟩⟩⟩⟩⟩⟩⟩⟩⟩⟩⟩⟩⟩⟩⟩
theorem cwc_9 : ∀ y ∈ [180, 181, 182, 183, 184, 185, 186, 187, 188, 189, 190, 191, 192, 193, 194, 195, 196, 197, 198, 199], wdc y ∈ lw_tbl := List.forall_mem_cons.mpr ⟨cw_180, List.forall_mem_cons.mpr ⟨cw_181, List.forall_mem_cons.mpr ⟨cw_182, List.forall_mem_cons.mpr ⟨cw_183, List.forall_mem_cons.mpr ⟨cw_184, List.forall_mem_cons.mpr ⟨cw_185, List.forall_mem_cons.mpr ⟨cw_186, List.forall_mem_cons.mpr ⟨cw_187, List.forall_mem_cons.mpr ⟨cw_188, List.forall_mem_cons.mpr ⟨cw_189, List.forall_mem_cons.mpr ⟨cw_190, List.forall_mem_cons.mpr ⟨cw_191, List.forall_mem_cons.mpr ⟨cw_192, List.forall_mem_cons.mpr ⟨cw_193, List.forall_mem_cons.mpr ⟨cw_194, List.forall_mem_cons.mpr ⟨cw_195, List.forall_mem_cons.mpr ⟨cw_196, List.forall_mem_cons.mpr ⟨cw_197, List.forall_mem_cons.mpr ⟨cw_198, List.forall_mem_cons.mpr ⟨cw_199, fun _ h => absurd h List.not_mem_nil⟩⟩⟩⟩⟩⟩⟩⟩⟩⟩⟩⟩⟩⟩⟩⟩⟩⟩⟩⟩
theorem cwc_10 : ∀ y ∈ [200, 201, 202, 203, 204, 205, 206, 207, 208, 209, 210, 211, 212, 213, 214, 215, 216, 217, 218, 219], wdc y ∈ lw_tbl := List.forall_mem_cons.mpr ⟨cw_200, List.forall_mem_cons.mpr ⟨cw_201, List.forall_mem_cons.mpr ⟨cw_202, List.forall_mem_cons.mpr ⟨cw_203, List.forall_mem_cons.mpr ⟨cw_204, List.forall_mem_cons.mpr ⟨cw_205, List.forall_mem_cons.mpr ⟨cw_206, List.forall_mem_cons.mpr ⟨cw_207, List.forall_mem_cons.mpr ⟨cw_208, List.forall_mem_cons.mpr ⟨cw_209, List.forall_mem_cons.mpr ⟨cw_210, List.forall_mem_cons.mpr ⟨cw_211, List.forall_mem_cons.mpr ⟨cw_212, List.forall_mem_cons.mpr ⟨cw_213, List.forall_mem_cons.mpr ⟨cw_214, List.forall_mem_cons.mpr ⟨cw_215, List.forall_mem_cons.mpr ⟨cw_216, List.forall_mem_cons.mpr ⟨cw_217, List.forall_mem_cons.mpr ⟨cw_218, List.forall_mem_cons.mpr ⟨cw_219, fun _ h => absurd h List.not_mem_nil⟩⟩⟩⟩⟩⟩⟩⟩⟩⟩⟩⟩⟩⟩⟩⟩⟩⟩⟩⟩
theorem cwc_11 : ∀ y ∈ [220, 221, 222, 223, 224, 225, 226, 227, 228, 229, 230, 231, 232, 233, 234, 235, 236, 237, 238, 239], wdc y ∈ lw_tbl := List.forall_mem_cons.mpr ⟨cw_220, List.forall_mem_cons.mpr ⟨cw_221, List.forall_mem_cons.mpr ⟨cw_222, List.forall_mem_cons.mpr ⟨cw_223, List.forall_mem_cons.mpr ⟨cw_224, List.forall_mem_cons.mpr ⟨cw_225, List.forall_mem_cons.mpr ⟨cw_226, List.forall_mem_cons.mpr ⟨cw_227, List.forall_mem_cons.mpr ⟨cw_228, List.forall_mem_cons.mpr ⟨cw_229, List.forall_mem_cons.mpr ⟨cw_230, List.forall_mem_cons.mpr ⟨cw_231, List.forall_mem_cons.mpr ⟨cw_232, List.forall_mem_cons.mpr ⟨cw_233, List.forall_mem_cons.mpr ⟨cw_234, List.forall_mem_cons.mpr ⟨cw_235, List.forall_mem_cons.mpr ⟨cw_236, List.forall_mem_cons.mpr ⟨cw_237, List.forall_mem_cons.mpr ⟨cw_238, List.forall_mem_cons.mpr ⟨cw_239, fun _ h => absurd h List.not_mem_nil⟩⟩⟩⟩⟩⟩⟩⟩⟩⟩⟩⟩⟩⟩⟩⟩⟩⟩⟩⟩
theorem cwc_12 : ∀ y ∈ [240, 241, 242, 243, 244, 245, 246, 247, 248, 249, 250, 251, 252, 253, 254, 255, 256, 257, 258, 259], wdc y ∈ lw_tbl := List.forall_mem_cons.mpr ⟨cw_240, List.forall_mem_cons.mpr ⟨cw_241, List.forall_mem_cons.mpr ⟨cw_242, List.forall_mem_cons.mpr ⟨cw_243, List.forall_mem_cons.mpr ⟨cw_244, List.forall_mem_cons.mpr ⟨cw_245, List.forall_mem_cons.mpr ⟨cw_246, List.forall_mem_cons.mpr ⟨cw_247, List.forall_mem_cons.mpr ⟨cw_248, List.forall_mem_cons.mpr ⟨cw_249, List.forall_mem_cons.mpr ⟨cw_250, List.forall_mem_cons.mpr ⟨cw_251, List.forall_mem_cons.mpr ⟨cw_252, List.forall_mem_cons.mpr ⟨cw_253, List.forall_mem_cons.mpr ⟨cw_254, List.forall_mem_cons.mpr ⟨cw_255, List.forall_mem_cons.mpr ⟨cw_256, List.forall_mem_cons.mpr ⟨cw_257, List.forall_mem_cons.mpr ⟨cw_258, List.forall_mem_cons.mpr ⟨cw_259, fun _ h => absurd h List.not_mem_nil⟩⟩⟩⟩⟩⟩⟩⟩⟩⟩⟩⟩⟩⟩⟩⟩⟩⟩⟩⟩
theorem cwc_13 : ∀ y ∈ [260, 261, 262, 263, 264, 265, 266, 267, 268, 269, 270, 271, 272, 273, 274, 275, 276, 277, 278, 279], wdc y ∈ lw_tbl := List.forall_mem_cons.mpr ⟨cw_260, List.forall_mem_cons.mpr ⟨cw_261, List.forall_mem_cons.mpr ⟨cw_262, List.forall_mem_cons.mpr ⟨cw_263, List.forall_mem_cons.mpr ⟨cw_264, List.forall_mem_cons.mpr ⟨cw_265, List.forall_mem_cons.mpr ⟨cw_266, List.forall_mem_cons.mpr ⟨cw_267, List.forall_mem_cons.mpr ⟨cw_268, List.forall_mem_cons.mpr ⟨cw_269, List.forall_mem_cons.mpr ⟨cw_270, List.forall_mem_cons.mpr ⟨cw_271, List.forall_mem_cons.mpr ⟨cw_272, List.forall_mem_cons.mpr ⟨cw_273, List.forall_mem_cons.mpr ⟨cw_274, List.forall_mem_cons.mpr ⟨cw_275, List.forall_mem_cons.mpr ⟨cw_276, List.forall_mem_cons.mpr ⟨cw_277, List.forall_mem_cons.mpr ⟨cw_278, List.forall_mem_cons.mpr ⟨cw_279, fun _ h => absurd h List.not_mem_nil⟩⟩⟩⟩⟩⟩⟩⟩⟩⟩⟩⟩⟩⟩⟩⟩⟩⟩⟩⟩
theorem cwc_14 : ∀ y ∈ [280, 281, 282, 283, 284, 285, 286, 287, 288, 289, 290, 291, 292, 293, 294, 295, 296, 297, 298, 299], wdc y ∈ lw_tbl := List.forall_mem_cons.mpr ⟨cw_280, List.forall_mem_cons.mpr ⟨cw_281, List.forall_mem_cons.mpr ⟨cw_282, List.forall_mem_cons.mpr ⟨cw_283, List.forall_mem_cons.mpr ⟨cw_284, List.forall_mem_cons.mpr ⟨cw_285, List.forall_mem_cons.mpr ⟨cw_286, List.forall_mem_cons.mpr ⟨cw_287, List.forall_mem_cons.mpr ⟨cw_288, List.forall_mem_cons.mpr ⟨cw_289, List.forall_mem_cons.mpr ⟨cw_290, List.forall_mem_cons.mpr ⟨cw_291, List.forall_mem_cons.mpr ⟨cw_292, List.forall_mem_cons.mpr ⟨cw_293, List.forall_mem_cons.mpr ⟨cw_294, List.forall_mem_cons.mpr ⟨cw_295, List.forall_mem_cons.mpr ⟨cw_296, List.forall_mem_cons.mpr ⟨cw_297, List.forall_mem_cons.mpr ⟨cw_298, List.forall_mem_cons.mpr ⟨cw_299, fun _ h => absurd h List.not_mem_nil⟩⟩⟩⟩⟩⟩⟩⟩⟩⟩⟩⟩⟩⟩⟩⟩⟩⟩⟩⟩
theorem cwc_15 : ∀ y ∈ [300, 301, 302, 303, 304, 305, 306, 307, 308, 309, 310, 311, 312, 313, 314, 315, 316, 317, 318, 319], wdc y ∈ lw_tbl := List.forall_mem_cons.mpr ⟨cw_300, List.forall_mem_cons.mpr ⟨cw_301, List.forall_mem_cons.mpr ⟨cw_302, List.forall_mem_cons.mpr ⟨cw_303, List.forall_mem_cons.mpr ⟨cw_304, List.forall_mem_cons.mpr ⟨cw_305, List.forall_mem_cons.mpr ⟨cw_306, List.forall_mem_cons.mpr ⟨cw_307, List.forall_mem_cons.mpr ⟨cw_308, List.forall_mem_cons.mpr ⟨cw_309, List.forall_mem_cons.mpr ⟨cw_310, List.forall_mem_cons.mpr ⟨cw_311, List.forall_mem_cons.mpr ⟨cw_312, List.forall_mem_cons.mpr ⟨cw_313, List.forall_mem_cons.mpr ⟨cw_314, List.forall_mem_cons.mpr ⟨cw_315, List.forall_mem_cons.mpr ⟨cw_316, List.forall_mem_cons.mpr ⟨cw_317, List.forall_mem_cons.mpr ⟨cw_318, List.forall_mem_cons.mpr ⟨cw_319, fun _ h => absurd h List.not_mem_nil⟩⟩⟩⟩⟩⟩⟩⟩⟩⟩⟩⟩⟩⟩⟩⟩⟩⟩⟩⟩
theorem cwc_16 : ∀ y ∈ [320, 321, 322, 323, 324, 325, 326, 327, 328, 329, 330, 331, 332, 333, 334, 335, 336, 337, 338, 339], wdc y ∈ lw_tbl := List.forall_mem_cons.mpr ⟨cw_320, List.forall_mem_cons.mpr ⟨cw_321, List.forall_mem_cons.mpr ⟨cw_322, List.forall_mem_cons.mpr ⟨cw_323, List.forall_mem_cons.mpr ⟨cw_324, List.forall_mem_cons.mpr ⟨cw_325, List.forall_mem_cons.mpr ⟨cw_326, List.forall_mem_cons.mpr ⟨cw_327, List.forall_mem_cons.mpr ⟨cw_328, List.forall_mem_cons.mpr ⟨cw_329, List.forall_mem_cons.mpr ⟨cw_330, List.forall_mem_cons.mpr ⟨cw_331, List.forall_mem_cons.mpr ⟨cw_332, List.forall_mem_cons.mpr ⟨cw_333, List.forall_mem_cons.mpr ⟨cw_334, List.forall_mem_cons.mpr ⟨cw_335, List.forall_mem_cons.mpr ⟨cw_336, List.forall_mem_cons.mpr ⟨cw_337, List.forall_mem_cons.mpr ⟨cw_338, List.forall_mem_cons.mpr ⟨cw_339, fun _ h => absurd h List.not_mem_nil⟩⟩⟩⟩⟩⟩⟩⟩⟩⟩⟩⟩⟩⟩⟩⟩⟩⟩⟩⟩
theorem cwc_17 : ∀ y ∈ [340, 341, 342, 343, 344, 345, 346, 347, 348, 349, 350, 351, 352, 353, 354, 355, 356, 357, 358, 359], wdc y ∈ lw_tbl := List.forall_mem_cons.mpr ⟨cw_340, List.forall_mem_cons.mpr ⟨cw_341, List.forall_mem_cons.mpr ⟨cw_342, List.forall_mem_cons.mpr ⟨cw_343, List.forall_mem_cons.mpr ⟨cw_344, List.forall_mem_cons.mpr ⟨cw_345, List.forall_mem_cons.mpr ⟨cw_346, List.forall_mem_cons.mpr ⟨cw_347, List.forall_mem_cons.mpr ⟨cw_348, List.forall_mem_cons.mpr ⟨cw_349, List.forall_mem_cons.mpr ⟨cw_350, List.forall_mem_cons.mpr ⟨cw_351, List.forall_mem_cons.mpr ⟨cw_352, List.forall_mem_cons.mpr ⟨cw_353, List.forall_mem_cons.mpr ⟨cw_354, List.forall_mem_cons.mpr ⟨cw_355, List.forall_mem_cons.mpr ⟨cw_356, List.forall_mem_cons.mpr ⟨cw_357, List.forall_mem_cons.mpr ⟨cw_358, List.forall_mem_cons.mpr ⟨cw_359, fun _ h => absurd h List.not_mem_nil⟩⟩⟩⟩⟩⟩⟩⟩⟩⟩⟩⟩⟩⟩⟩⟩⟩⟩⟩⟩
theorem cwc_18 : ∀ y ∈ [360, 361, 362, 363, 364, 365, 366, 367, 368, 369, 370, 371, 372, 373, 374, 375, 376, 377, 378, 379], wdc y ∈ lw_tbl := List.forall_mem_cons.mpr ⟨cw_360, List.forall_mem_cons.mpr ⟨cw_361, List.forall_mem_cons.mpr ⟨cw_362, List.forall_mem_cons.mpr ⟨cw_363, List.forall_mem_cons.mpr ⟨cw_364, List.forall_mem_cons.mpr ⟨cw_365, List.forall_mem_cons.mpr ⟨cw_366, List.forall_mem_cons.mpr ⟨cw_367, List.forall_mem_cons.mpr ⟨cw_368, List.forall_mem_cons.mpr ⟨cw_369, List.forall_mem_cons.mpr ⟨cw_370, List.forall_mem_cons.mpr ⟨cw_371, List.forall_mem_cons.mpr ⟨cw_372, List.forall_mem_cons.mpr ⟨cw_373, List.forall_mem_cons.mpr ⟨cw_374, List.forall_mem_cons.mpr ⟨cw_375, List.forall_mem_cons.mpr ⟨cw_376, List.forall_mem_cons.mpr ⟨cw_377, List.forall_mem_cons.mpr ⟨cw_378, List.forall_mem_cons.mpr ⟨cw_379, fun _ h => absurd h List.not_mem_nil⟩⟩⟩⟩⟩⟩⟩⟩⟩⟩⟩⟩⟩⟩⟩⟩⟩⟩⟩⟩
theorem cwc_19 : ∀ y ∈ [380, 381, 382, 383, 384, 385, 386, 387, 388, 389, 390, 391, 392, 393, 394, 395, 396, 397, 398, 399], wdc y ∈ lw_tbl := List.forall_mem_cons.mpr ⟨cw_380, List.forall_mem_cons.mpr ⟨cw_381, List.forall_mem_cons.mpr ⟨cw_382, List.forall_mem_cons.mpr ⟨cw_383, List.forall_mem_cons.mpr ⟨cw_384, List.forall_mem_cons.mpr ⟨cw_385, List.forall_mem_cons.mpr ⟨cw_386, List.forall_mem_cons.mpr ⟨cw_387, List.forall_mem_cons.mpr ⟨cw_388, List.forall_mem_cons.mpr ⟨cw_389, List.forall_mem_cons.mpr ⟨cw_390, List.forall_mem_cons.mpr ⟨cw_391, List.forall_mem_cons.mpr ⟨cw_392, List.forall_mem_cons.mpr ⟨cw_393, List.forall_mem_cons.mpr ⟨cw_394, List.forall_mem_cons.mpr ⟨cw_395, List.forall_mem_cons.mpr ⟨cw_396, List.forall_mem_cons.mpr ⟨cw_397, List.forall_mem_cons.mpr ⟨cw_398, List.forall_mem_cons.mpr ⟨cw_399, fun _ h => absurd h List.not_mem_nil⟩⟩⟩⟩⟩⟩⟩⟩⟩⟩⟩⟩⟩⟩⟩⟩⟩⟩⟩⟩
theorem cwc_20 : ∀ y ∈ [400, 401, 402, 403, 404, 405, 406], wdc y ∈ lw_tbl := List.forall_mem_cons.mpr ⟨cw_400, List.forall_mem_cons.mpr ⟨cw_401, List.forall_mem_cons.mpr ⟨cw_402, List.forall_mem_cons.mpr ⟨cw_403, List.forall_mem_cons.mpr ⟨cw_404, List.forall_mem_cons.mpr ⟨cw_405, List.forall_mem_cons.mpr ⟨cw_406, fun _ h => absurd h List.not_mem_nil⟩⟩⟩⟩⟩⟩⟩
theorem cw_all : ∀ y, y < 407 → wdc y ∈ lw_tbl := by
  intro y hy
  have h : y ∈ [0, 1, 2, 3, 4, 5, 6, 7, 8, 9, 10, 11, 12, 13, 14, 15, 16, 17, 18, 19] ++ ([20, 21, 22, 23, 24, 25, 26, 27, 28, 29, 30, 31, 32, 33, 34, 35, 36, 37, 38, 39] ++ ([40, 41, 42, 43, 44, 45, 46, 47, 48, 49, 50, 51, 52, 53, 54, 55, 56, 57, 58, 59] ++ ([60, 61, 62, 63, 64, 65, 66, 67, 68, 69, 70, 71, 72, 73, 74, 75, 76, 77, 78, 79] ++ ([80, 81, 82, 83, 84, 85, 86, 87, 88, 89, 90, 91, 92, 93, 94, 95, 96, 97, 98, 99] ++ ([100, 101, 102, 103, 104, 105, 106, 107, 108, 109, 110, 111, 112, 113, 114, 115, 116, 117, 118, 119] ++ ([120, 121, 122, 123, 124, 125, 126, 127, 128, 129, 130, 131, 132, 133, 134, 135, 136, 137, 138, 139] ++ ([140, 141, 142, 143, 144, 145, 146, 147, 148, 149, 150, 151, 152, 153, 154, 155, 156, 157, 158, 159] ++ ([160, 161, 162, 163, 164, 165, 166, 167, 168, 169, 170, 171, 172, 173, 174, 175, 176, 177, 178, 179] ++ ([180, 181, 182, 183, 184, 185, 186, 187, 188, 189, 190, 191, 192, 193, 194, 195, 196, 197, 198, 199] ++ ([200, 201, 202, 203, 204, 205, 206, 207, 208, 209, 210, 211, 212, 213, 214, 215, 216, 217, 218, 219] ++ ([220, 221, 222, 223, 224, 225, 226, 227, 228, 229, 230, 231, 232, 233, 234, 235, 236, 237, 238, 239] ++ ([240, 241, 242, 243, 244, 245, 246, 247, 248, 249, 250, 251, 252, 253, 254, 255, 256, 257, 258, 259] ++ ([260, 261, 262, 263, 264, 265, 266, 267, 268, 269, 270, 271, 272, 273, 274, 275, 276, 277, 278, 279] ++ ([280, 281, 282, 283, 284, 285, 286, 287, 288, 289, 290, 291, 292, 293, 294, 295, 296, 297, 298, 299] ++ ([300, 301, 302, 303, 304, 305, 306, 307, 308, 309, 310, 311, 312, 313, 314, 315, 316, 317, 318, 319] ++ ([320, 321, 322, 323, 324, 325, 326, 327, 328, 329, 330, 331, 332, 333, 334, 335, 336, 337, 338, 339] ++ ([340, 341, 342, 343, 344, 345, 346, 347, 348, 349, 350, 351, 352, 353, 354, 355, 356, 357, 358, 359] ++ ([360, 361, 362, 363, 364, 365, 366, 367, 368, 369, 370, 371, 372, 373, 374, 375, 376, 377, 378, 379] ++ ([380, 381, 382, 383, 384, 385, 386, 387, 388, 389, 390, 391, 392, 393, 394, 395, 396, 397, 398, 399] ++ ([400, 401, 402, 403, 404, 405, 406])))))))))))))))))))) := by
    have h1 : y ∈ List.range 407 := List.mem_range.mpr hy
    have h2 : List.range 407 = [0, 1, 2, 3, 4, 5, 6, 7, 8, 9, 10, 11, 12, 13, 14, 15, 16, 17, 18, 19] ++ ([20, 21, 22, 23, 24, 25, 26, 27, 28, 29, 30, 31, 32, 33, 34, 35, 36, 37, 38, 39] ++ ([40, 41, 42, 43, 44, 45, 46, 47, 48, 49, 50, 51, 52, 53, 54, 55, 56, 57, 58, 59] ++ ([60, 61, 62, 63, 64, 65, 66, 67, 68, 69, 70, 71, 72, 73, 74, 75, 76, 77, 78, 79] ++ ([80, 81, 82, 83, 84, 85, 86, 87, 88, 89, 90, 91, 92, 93, 94, 95, 96, 97, 98, 99] ++ ([100, 101, 102, 103, 104, 105, 106, 107, 108, 109, 110, 111, 112, 113, 114, 115, 116, 117, 118, 119] ++ ([120, 121, 122, 123, 124, 125, 126, 127, 128, 129, 130, 131, 132, 133, 134, 135, 136, 137, 138, 139] ++ ([140, 141, 142, 143, 144, 145, 146, 147, 148, 149, 150, 151, 152, 153, 154, 155, 156, 157, 158, 159] ++ ([160, 161, 162, 163, 164, 165, 166, 167, 168, 169, 170, 171, 172, 173, 174, 175, 176, 177, 178, 179] ++ ([180, 181, 182, 183, 184, 185, 186, 187, 188, 189, 190, 191, 192, 193, 194, 195, 196, 197, 198, 199] ++ ([200, 201, 202, 203, 204, 205, 206, 207, 208, 209, 210, 211, 212, 213, 214, 215, 216, 217, 218, 219] ++ ([220, 221, 222, 223, 224, 225, 226, 227, 228, 229, 230, 231, 232, 233, 234, 235, 236, 237, 238, 239] ++ ([240, 241, 242, 243, 244, 245, 246, 247, 248, 249, 250, 251, 252, 253, 254, 255, 256, 257, 258, 259] ++ ([260, 261, 262, 263, 264, 265, 266, 267, 268, 269, 270, 271, 272, 273, 274, 275, 276, 277, 278, 279] ++ ([280, 281, 282, 283, 284, 285, 286, 287, 288, 289, 290, 291, 292, 293, 294, 295, 296, 297, 298, 299] ++ ([300, 301, 302, 303, 304, 305, 306, 307, 308, 309, 310, 311, 312, 313, 314, 315, 316, 317, 318, 319] ++ ([320, 321, 322, 323, 324, 325, 326, 327, 328, 329, 330, 331, 332, 333, 334, 335, 336, 337, 338, 339] ++ ([340, 341, 342, 343, 344, 345, 346, 347, 348, 349, 350, 351, 352, 353, 354, 355, 356, 357, 358, 359] ++ ([360, 361, 362, 363, 364, 365, 366, 367, 368, 369, 370, 371, 372, 373, 374, 375, 376, 377, 378, 379] ++ ([380, 381, 382, 383, 384, 385, 386, 387, 388, 389, 390, 391, 392, 393, 394, 395, 396, 397, 398, 399] ++ ([400, 401, 402, 403, 404, 405, 406])))))))))))))))))))) := by decide +kernel
    rw [h2] at h1; exact h1
  revert y
  exact fun y _ => List.forall_mem_append.mpr ⟨cwc_0, List.forall_mem_append.mpr ⟨cwc_1, List.forall_mem_append.mpr ⟨cwc_2, List.forall_mem_append.mpr ⟨cwc_3, List.forall_mem_append.mpr ⟨cwc_4, List.forall_mem_append.mpr ⟨cwc_5, List.forall_mem_append.mpr ⟨cwc_6, List.forall_mem_append.mpr ⟨cwc_7, List.forall_mem_append.mpr ⟨cwc_8, List.forall_mem_append.mpr ⟨cwc_9, List.forall_mem_append.mpr ⟨cwc_10, List.forall_mem_append.mpr ⟨cwc_11, List.forall_mem_append.mpr ⟨cwc_12, List.forall_mem_append.mpr ⟨cwc_13, List.forall_mem_append.mpr ⟨cwc_14, List.forall_mem_append.mpr ⟨cwc_15, List.forall_mem_append.mpr ⟨cwc_16, List.forall_mem_append.mpr ⟨cwc_17, List.forall_mem_append.mpr ⟨cwc_18, List.forall_mem_append.mpr ⟨cwc_19, cwc_20⟩⟩⟩⟩⟩⟩⟩⟩⟩⟩⟩⟩⟩⟩⟩⟩⟩⟩⟩⟩ y
