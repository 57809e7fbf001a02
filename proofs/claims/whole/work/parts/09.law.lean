section LSITES
variable {ρ : Type} {Y : jY} {Z : jZ} {nL : Nat} {Qf : ρ → State → Prop} {k : Option ρ} {pc : Nat} {lo lo' : List (Nat × jV)} {st rest : List jV} {cs ss n : Nat} {sh : jS} {rf : jR} {I : jI} {L : jL} {own nm : String} {cc : ByteArray} {ret : Option FieldType} {fr lw mcX msX : Nat}
theorem s_L_13 : jSiteV RL 13 RX6 yX6_row cX6_row 5 (some .int) 3 := ⟨⟨(jm 362 (by decide +kernel) (by decide +kernel)), (jm 363 (by decide +kernel) (by decide +kernel)), (jm 364 (by decide +kernel) (by decide +kernel)), (jm 73 (by decide +kernel) (by decide +kernel)), (jm 365 (by decide +kernel) (by decide +kernel))⟩, rfl, by decide +kernel, by decide +kernel, by decide +kernel⟩
theorem s_L_17 : jSiteV RL 17 RX7 yX7_row cX7_row 5 (some .int) 3 := ⟨⟨(jm 1190 (by decide +kernel) (by decide +kernel)), (jm 1191 (by decide +kernel) (by decide +kernel)), (jm 1192 (by decide +kernel) (by decide +kernel)), (jm 80 (by decide +kernel) (by decide +kernel)), (jm 1193 (by decide +kernel) (by decide +kernel))⟩, rfl, by decide +kernel, by decide +kernel, by decide +kernel⟩
theorem q_L_18 : Cond.constantLong RL 18 (4294967295 : Int64) ∈ wsU := (jm 1373 (by decide +kernel) (by decide +kernel))
theorem s_L_20 : jSiteV RL 20 RX6 yX6_set cX6_set 7 (some .int) 3 := ⟨⟨(jm 385 (by decide +kernel) (by decide +kernel)), (jm 386 (by decide +kernel) (by decide +kernel)), (jm 387 (by decide +kernel) (by decide +kernel)), (jm 73 (by decide +kernel) (by decide +kernel)), (jm 388 (by decide +kernel) (by decide +kernel))⟩, rfl, by decide +kernel, by decide +kernel, by decide +kernel⟩
theorem s_L_24 : jSiteV RL 24 RX7 yX7_set cX7_set 7 (some .int) 3 := ⟨⟨(jm 1200 (by decide +kernel) (by decide +kernel)), (jm 1201 (by decide +kernel) (by decide +kernel)), (jm 1202 (by decide +kernel) (by decide +kernel)), (jm 80 (by decide +kernel) (by decide +kernel)), (jm 1203 (by decide +kernel) (by decide +kernel))⟩, rfl, by decide +kernel, by decide +kernel, by decide +kernel⟩
theorem s_L_25 : jSiteV RL 25 RX6 yX6_copy cX6_copy 9 (some .int) 5 := ⟨⟨(jm 414 (by decide +kernel) (by decide +kernel)), (jm 415 (by decide +kernel) (by decide +kernel)), (jm 416 (by decide +kernel) (by decide +kernel)), (jm 73 (by decide +kernel) (by decide +kernel)), (jm 417 (by decide +kernel) (by decide +kernel))⟩, rfl, by decide +kernel, by decide +kernel, by decide +kernel⟩
theorem s_L_29 : jSiteV RL 29 RX7 yX7_copy cX7_copy 9 (some .int) 5 := ⟨⟨(jm 1208 (by decide +kernel) (by decide +kernel)), (jm 1209 (by decide +kernel) (by decide +kernel)), (jm 1210 (by decide +kernel) (by decide +kernel)), (jm 80 (by decide +kernel) (by decide +kernel)), (jm 1211 (by decide +kernel) (by decide +kernel))⟩, rfl, by decide +kernel, by decide +kernel, by decide +kernel⟩
theorem s_L_30 : jSiteV RL 30 RX6 yX6_element cX6_element 4 (some .long) 2 := ⟨⟨(jm 425 (by decide +kernel) (by decide +kernel)), (jm 426 (by decide +kernel) (by decide +kernel)), (jm 427 (by decide +kernel) (by decide +kernel)), (jm 73 (by decide +kernel) (by decide +kernel)), (jm 428 (by decide +kernel) (by decide +kernel))⟩, rfl, by decide +kernel, by decide +kernel, by decide +kernel⟩
theorem s_L_34 : jSiteV RL 34 RX7 yX7_element cX7_element 3 (some .long) 2 := ⟨⟨(jm 1212 (by decide +kernel) (by decide +kernel)), (jm 1213 (by decide +kernel) (by decide +kernel)), (jm 1214 (by decide +kernel) (by decide +kernel)), (jm 80 (by decide +kernel) (by decide +kernel)), (jm 1215 (by decide +kernel) (by decide +kernel))⟩, rfl, by decide +kernel, by decide +kernel, by decide +kernel⟩
theorem s_L_35 : jSiteV RL 35 RX6 yX6_holds cX6_holds 3 (some .int) 1 := ⟨⟨(jm 433 (by decide +kernel) (by decide +kernel)), (jm 434 (by decide +kernel) (by decide +kernel)), (jm 435 (by decide +kernel) (by decide +kernel)), (jm 73 (by decide +kernel) (by decide +kernel)), (jm 436 (by decide +kernel) (by decide +kernel))⟩, rfl, by decide +kernel, by decide +kernel, by decide +kernel⟩
theorem s_L_39 : jSiteV RL 39 RX7 yX7_holds cX7_holds 2 (some .int) 1 := ⟨⟨(jm 1216 (by decide +kernel) (by decide +kernel)), (jm 1217 (by decide +kernel) (by decide +kernel)), (jm 1218 (by decide +kernel) (by decide +kernel)), (jm 80 (by decide +kernel) (by decide +kernel)), (jm 1219 (by decide +kernel) (by decide +kernel))⟩, rfl, by decide +kernel, by decide +kernel, by decide +kernel⟩
theorem s_L_40 : jSiteV RL 40 RX6 yX6_show cX6_show 4 (some .int) 2 := ⟨⟨(jm 437 (by decide +kernel) (by decide +kernel)), (jm 438 (by decide +kernel) (by decide +kernel)), (jm 439 (by decide +kernel) (by decide +kernel)), (jm 73 (by decide +kernel) (by decide +kernel)), (jm 440 (by decide +kernel) (by decide +kernel))⟩, rfl, by decide +kernel, by decide +kernel, by decide +kernel⟩
theorem s_L_44 : jSiteV RL 44 RX7 yX7_show cX7_show 3 (some .int) 2 := ⟨⟨(jm 1220 (by decide +kernel) (by decide +kernel)), (jm 1221 (by decide +kernel) (by decide +kernel)), (jm 1222 (by decide +kernel) (by decide +kernel)), (jm 80 (by decide +kernel) (by decide +kernel)), (jm 1223 (by decide +kernel) (by decide +kernel))⟩, rfl, by decide +kernel, by decide +kernel, by decide +kernel⟩
theorem s_L_45 : jSiteV RL 45 RX6 yX6_says cX6_says 5 (some .int) 2 := ⟨⟨(jm 446 (by decide +kernel) (by decide +kernel)), (jm 447 (by decide +kernel) (by decide +kernel)), (jm 448 (by decide +kernel) (by decide +kernel)), (jm 73 (by decide +kernel) (by decide +kernel)), (jm 449 (by decide +kernel) (by decide +kernel))⟩, rfl, by decide +kernel, by decide +kernel, by decide +kernel⟩
theorem s_L_48 : jSiteV RL 48 RX7 yX7_says cX7_says 4 (some .int) 2 := ⟨⟨(jm 1224 (by decide +kernel) (by decide +kernel)), (jm 1225 (by decide +kernel) (by decide +kernel)), (jm 1226 (by decide +kernel) (by decide +kernel)), (jm 80 (by decide +kernel) (by decide +kernel)), (jm 1227 (by decide +kernel) (by decide +kernel))⟩, rfl, by decide +kernel, by decide +kernel, by decide +kernel⟩
theorem s_L_49 : jSiteV RL 49 RX6 yX6_feed cX6_feed 2 (some .int) 1 := ⟨⟨(jm 486 (by decide +kernel) (by decide +kernel)), (jm 487 (by decide +kernel) (by decide +kernel)), (jm 488 (by decide +kernel) (by decide +kernel)), (jm 73 (by decide +kernel) (by decide +kernel)), (jm 489 (by decide +kernel) (by decide +kernel))⟩, rfl, by decide +kernel, by decide +kernel, by decide +kernel⟩
theorem s_L_52 : jSiteV RL 52 RX7 yX7_feed cX7_feed 2 (some .int) 1 := ⟨⟨(jm 1155 (by decide +kernel) (by decide +kernel)), (jm 1156 (by decide +kernel) (by decide +kernel)), (jm 1157 (by decide +kernel) (by decide +kernel)), (jm 80 (by decide +kernel) (by decide +kernel)), (jm 1158 (by decide +kernel) (by decide +kernel))⟩, rfl, by decide +kernel, by decide +kernel, by decide +kernel⟩
theorem s_L_53 : jSiteV RL 53 RX6 yX6_wipe cX6_wipe 2 (some .int) 0 := ⟨⟨(jm 499 (by decide +kernel) (by decide +kernel)), (jm 500 (by decide +kernel) (by decide +kernel)), (jm 501 (by decide +kernel) (by decide +kernel)), (jm 73 (by decide +kernel) (by decide +kernel)), (jm 502 (by decide +kernel) (by decide +kernel))⟩, rfl, by decide +kernel, by decide +kernel, by decide +kernel⟩
theorem s_L_57 : jSiteV RL 57 RX7 yX7_wipe cX7_wipe 2 (some .int) 0 := ⟨⟨(jm 1160 (by decide +kernel) (by decide +kernel)), (jm 1161 (by decide +kernel) (by decide +kernel)), (jm 1162 (by decide +kernel) (by decide +kernel)), (jm 80 (by decide +kernel) (by decide +kernel)), (jm 1163 (by decide +kernel) (by decide +kernel))⟩, rfl, by decide +kernel, by decide +kernel, by decide +kernel⟩
theorem s_L_58 : jSiteV RL 58 RX6 yX6_traffic cX6_traffic 4 (some .int) 0 := ⟨⟨(jm 503 (by decide +kernel) (by decide +kernel)), (jm 504 (by decide +kernel) (by decide +kernel)), (jm 505 (by decide +kernel) (by decide +kernel)), (jm 73 (by decide +kernel) (by decide +kernel)), (jm 506 (by decide +kernel) (by decide +kernel))⟩, rfl, by decide +kernel, by decide +kernel, by decide +kernel⟩
theorem s_L_61 : jSiteV RL 61 RX7 yX7_traffic cX7_traffic 2 (some .int) 0 := ⟨⟨(jm 1164 (by decide +kernel) (by decide +kernel)), (jm 1165 (by decide +kernel) (by decide +kernel)), (jm 1166 (by decide +kernel) (by decide +kernel)), (jm 80 (by decide +kernel) (by decide +kernel)), (jm 1167 (by decide +kernel) (by decide +kernel))⟩, rfl, by decide +kernel, by decide +kernel, by decide +kernel⟩
theorem s_L_62 : jSiteV RL 62 RX6 yX6_level cX6_level 5 (some .int) 3 := ⟨⟨(jm 676 (by decide +kernel) (by decide +kernel)), (jm 677 (by decide +kernel) (by decide +kernel)), (jm 678 (by decide +kernel) (by decide +kernel)), (jm 73 (by decide +kernel) (by decide +kernel)), (jm 679 (by decide +kernel) (by decide +kernel))⟩, rfl, by decide +kernel, by decide +kernel, by decide +kernel⟩
theorem s_L_65 : jSiteV RL 65 RX7 yX7_level cX7_level 6 (some .int) 3 := ⟨⟨(jm 1022 (by decide +kernel) (by decide +kernel)), (jm 1023 (by decide +kernel) (by decide +kernel)), (jm 1024 (by decide +kernel) (by decide +kernel)), (jm 80 (by decide +kernel) (by decide +kernel)), (jm 1025 (by decide +kernel) (by decide +kernel))⟩, rfl, by decide +kernel, by decide +kernel, by decide +kernel⟩
theorem s_L_66 : jSiteV RL 66 RX6 yX6_drop cX6_drop 1 (some .int) 0 := ⟨⟨(jm 694 (by decide +kernel) (by decide +kernel)), (jm 695 (by decide +kernel) (by decide +kernel)), (jm 696 (by decide +kernel) (by decide +kernel)), (jm 73 (by decide +kernel) (by decide +kernel)), (jm 697 (by decide +kernel) (by decide +kernel))⟩, rfl, by decide +kernel, by decide +kernel, by decide +kernel⟩
theorem s_L_69 : jSiteV RL 69 RX7 yX7_drop cX7_drop 2 (some .int) 0 := ⟨⟨(jm 1071 (by decide +kernel) (by decide +kernel)), (jm 1072 (by decide +kernel) (by decide +kernel)), (jm 1073 (by decide +kernel) (by decide +kernel)), (jm 80 (by decide +kernel) (by decide +kernel)), (jm 1074 (by decide +kernel) (by decide +kernel))⟩, rfl, by decide +kernel, by decide +kernel, by decide +kernel⟩
theorem s_L_70 : jSiteV RL 70 RX6 yX6_mode cX6_mode 4 (some .int) 2 := ⟨⟨(jm 702 (by decide +kernel) (by decide +kernel)), (jm 703 (by decide +kernel) (by decide +kernel)), (jm 704 (by decide +kernel) (by decide +kernel)), (jm 73 (by decide +kernel) (by decide +kernel)), (jm 705 (by decide +kernel) (by decide +kernel))⟩, rfl, by decide +kernel, by decide +kernel, by decide +kernel⟩
theorem s_L_73 : jSiteV RL 73 RX7 yX7_mode cX7_mode 4 (some .int) 2 := ⟨⟨(jm 1075 (by decide +kernel) (by decide +kernel)), (jm 1076 (by decide +kernel) (by decide +kernel)), (jm 1077 (by decide +kernel) (by decide +kernel)), (jm 80 (by decide +kernel) (by decide +kernel)), (jm 1078 (by decide +kernel) (by decide +kernel))⟩, rfl, by decide +kernel, by decide +kernel, by decide +kernel⟩
theorem s_L_74 : jSiteV RL 74 RX6 yX6_tell cX6_tell 4 (some .int) 2 := ⟨⟨(jm 706 (by decide +kernel) (by decide +kernel)), (jm 707 (by decide +kernel) (by decide +kernel)), (jm 708 (by decide +kernel) (by decide +kernel)), (jm 73 (by decide +kernel) (by decide +kernel)), (jm 709 (by decide +kernel) (by decide +kernel))⟩, rfl, by decide +kernel, by decide +kernel, by decide +kernel⟩
theorem s_L_77 : jSiteV RL 77 RX7 yX7_tell cX7_tell 4 (some .int) 2 := ⟨⟨(jm 1080 (by decide +kernel) (by decide +kernel)), (jm 1081 (by decide +kernel) (by decide +kernel)), (jm 1082 (by decide +kernel) (by decide +kernel)), (jm 80 (by decide +kernel) (by decide +kernel)), (jm 1083 (by decide +kernel) (by decide +kernel))⟩, rfl, by decide +kernel, by decide +kernel, by decide +kernel⟩
theorem s_L_78 : jSiteV RL 78 RX6 yX6_read cX6_read 2 (some .int) 1 := ⟨⟨(jm 710 (by decide +kernel) (by decide +kernel)), (jm 711 (by decide +kernel) (by decide +kernel)), (jm 712 (by decide +kernel) (by decide +kernel)), (jm 73 (by decide +kernel) (by decide +kernel)), (jm 713 (by decide +kernel) (by decide +kernel))⟩, rfl, by decide +kernel, by decide +kernel, by decide +kernel⟩
theorem s_L_81 : jSiteV RL 81 RX7 yX7_read cX7_read 2 (some .int) 1 := ⟨⟨(jm 1085 (by decide +kernel) (by decide +kernel)), (jm 1086 (by decide +kernel) (by decide +kernel)), (jm 1087 (by decide +kernel) (by decide +kernel)), (jm 80 (by decide +kernel) (by decide +kernel)), (jm 1088 (by decide +kernel) (by decide +kernel))⟩, rfl, by decide +kernel, by decide +kernel, by decide +kernel⟩
theorem s_L_82 : jSiteV RL 82 RX6 yX6_write cX6_write 3 (some .int) 2 := ⟨⟨(jm 715 (by decide +kernel) (by decide +kernel)), (jm 716 (by decide +kernel) (by decide +kernel)), (jm 717 (by decide +kernel) (by decide +kernel)), (jm 73 (by decide +kernel) (by decide +kernel)), (jm 718 (by decide +kernel) (by decide +kernel))⟩, rfl, by decide +kernel, by decide +kernel, by decide +kernel⟩
theorem s_L_85 : jSiteV RL 85 RX7 yX7_write cX7_write 3 (some .int) 2 := ⟨⟨(jm 1131 (by decide +kernel) (by decide +kernel)), (jm 1132 (by decide +kernel) (by decide +kernel)), (jm 1133 (by decide +kernel) (by decide +kernel)), (jm 80 (by decide +kernel) (by decide +kernel)), (jm 1134 (by decide +kernel) (by decide +kernel))⟩, rfl, by decide +kernel, by decide +kernel, by decide +kernel⟩
theorem s_L_86 : jSiteV RL 86 RX6 yX6_sweep cX6_sweep 2 (some .int) 1 := ⟨⟨(jm 719 (by decide +kernel) (by decide +kernel)), (jm 720 (by decide +kernel) (by decide +kernel)), (jm 721 (by decide +kernel) (by decide +kernel)), (jm 73 (by decide +kernel) (by decide +kernel)), (jm 722 (by decide +kernel) (by decide +kernel))⟩, rfl, by decide +kernel, by decide +kernel, by decide +kernel⟩
theorem s_L_89 : jSiteV RL 89 RX7 yX7_sweep cX7_sweep 2 (some .int) 1 := ⟨⟨(jm 1139 (by decide +kernel) (by decide +kernel)), (jm 1140 (by decide +kernel) (by decide +kernel)), (jm 1141 (by decide +kernel) (by decide +kernel)), (jm 80 (by decide +kernel) (by decide +kernel)), (jm 1142 (by decide +kernel) (by decide +kernel))⟩, rfl, by decide +kernel, by decide +kernel, by decide +kernel⟩
theorem s_L_90 : jSiteV RL 90 RX6 yX6_clear cX6_clear 2 (some .int) 0 := ⟨⟨(jm 723 (by decide +kernel) (by decide +kernel)), (jm 724 (by decide +kernel) (by decide +kernel)), (jm 725 (by decide +kernel) (by decide +kernel)), (jm 73 (by decide +kernel) (by decide +kernel)), (jm 726 (by decide +kernel) (by decide +kernel))⟩, rfl, by decide +kernel, by decide +kernel, by decide +kernel⟩
theorem s_L_93 : jSiteV RL 93 RX7 yX7_clear cX7_clear 2 (some .int) 0 := ⟨⟨(jm 1147 (by decide +kernel) (by decide +kernel)), (jm 1148 (by decide +kernel) (by decide +kernel)), (jm 1149 (by decide +kernel) (by decide +kernel)), (jm 80 (by decide +kernel) (by decide +kernel)), (jm 1150 (by decide +kernel) (by decide +kernel))⟩, rfl, by decide +kernel, by decide +kernel, by decide +kernel⟩
theorem s_L_94 : jSiteV RL 94 RX6 yX6_levelOf cX6_levelOf 4 (some .int) 2 := ⟨⟨(jm 737 (by decide +kernel) (by decide +kernel)), (jm 738 (by decide +kernel) (by decide +kernel)), (jm 739 (by decide +kernel) (by decide +kernel)), (jm 73 (by decide +kernel) (by decide +kernel)), (jm 740 (by decide +kernel) (by decide +kernel))⟩, rfl, by decide +kernel, by decide +kernel, by decide +kernel⟩
theorem s_L_97 : jSiteV RL 97 RX7 yX7_levelOf cX7_levelOf 8 (some .int) 2 := ⟨⟨(jm 1235 (by decide +kernel) (by decide +kernel)), (jm 1236 (by decide +kernel) (by decide +kernel)), (jm 1237 (by decide +kernel) (by decide +kernel)), (jm 80 (by decide +kernel) (by decide +kernel)), (jm 1238 (by decide +kernel) (by decide +kernel))⟩, rfl, by decide +kernel, by decide +kernel, by decide +kernel⟩
theorem s_L_98 : jSiteV RL 98 RX6 yX6_slot cX6_slot 5 (some .int) 3 := ⟨⟨(jm 750 (by decide +kernel) (by decide +kernel)), (jm 751 (by decide +kernel) (by decide +kernel)), (jm 752 (by decide +kernel) (by decide +kernel)), (jm 73 (by decide +kernel) (by decide +kernel)), (jm 753 (by decide +kernel) (by decide +kernel))⟩, rfl, by decide +kernel, by decide +kernel, by decide +kernel⟩
theorem s_L_101 : jSiteV RL 101 RX7 yX7_slot cX7_slot 5 (some .int) 3 := ⟨⟨(jm 1240 (by decide +kernel) (by decide +kernel)), (jm 1241 (by decide +kernel) (by decide +kernel)), (jm 1242 (by decide +kernel) (by decide +kernel)), (jm 80 (by decide +kernel) (by decide +kernel)), (jm 1243 (by decide +kernel) (by decide +kernel))⟩, rfl, by decide +kernel, by decide +kernel, by decide +kernel⟩
theorem s_L_102 : jSiteV RL 102 RX6 yX6_value cX6_value 4 (some .int) 2 := ⟨⟨(jm 758 (by decide +kernel) (by decide +kernel)), (jm 759 (by decide +kernel) (by decide +kernel)), (jm 760 (by decide +kernel) (by decide +kernel)), (jm 73 (by decide +kernel) (by decide +kernel)), (jm 761 (by decide +kernel) (by decide +kernel))⟩, rfl, by decide +kernel, by decide +kernel, by decide +kernel⟩
theorem s_L_105 : jSiteV RL 105 RX7 yX7_value cX7_value 4 (some .int) 2 := ⟨⟨(jm 1245 (by decide +kernel) (by decide +kernel)), (jm 1246 (by decide +kernel) (by decide +kernel)), (jm 1247 (by decide +kernel) (by decide +kernel)), (jm 80 (by decide +kernel) (by decide +kernel)), (jm 1248 (by decide +kernel) (by decide +kernel))⟩, rfl, by decide +kernel, by decide +kernel, by decide +kernel⟩
theorem s_L_106 : jSiteV RL 106 RX6 yX6_where cX6_where 2 (some .int) 1 := ⟨⟨(jm 765 (by decide +kernel) (by decide +kernel)), (jm 766 (by decide +kernel) (by decide +kernel)), (jm 767 (by decide +kernel) (by decide +kernel)), (jm 73 (by decide +kernel) (by decide +kernel)), (jm 768 (by decide +kernel) (by decide +kernel))⟩, rfl, by decide +kernel, by decide +kernel, by decide +kernel⟩
theorem s_L_109 : jSiteV RL 109 RX7 yX7_where cX7_where 4 (some .int) 1 := ⟨⟨(jm 1249 (by decide +kernel) (by decide +kernel)), (jm 1250 (by decide +kernel) (by decide +kernel)), (jm 1251 (by decide +kernel) (by decide +kernel)), (jm 80 (by decide +kernel) (by decide +kernel)), (jm 1252 (by decide +kernel) (by decide +kernel))⟩, rfl, by decide +kernel, by decide +kernel, by decide +kernel⟩
theorem s_L_110 : jSiteV RL 110 RX6 yX6_pages cX6_pages 2 (some .long) 1 := ⟨⟨(jm 770 (by decide +kernel) (by decide +kernel)), (jm 771 (by decide +kernel) (by decide +kernel)), (jm 772 (by decide +kernel) (by decide +kernel)), (jm 73 (by decide +kernel) (by decide +kernel)), (jm 773 (by decide +kernel) (by decide +kernel))⟩, rfl, by decide +kernel, by decide +kernel, by decide +kernel⟩
theorem s_L_114 : jSiteV RL 114 RX7 yX7_pages cX7_pages 6 (some .long) 1 := ⟨⟨(jm 1253 (by decide +kernel) (by decide +kernel)), (jm 1254 (by decide +kernel) (by decide +kernel)), (jm 1255 (by decide +kernel) (by decide +kernel)), (jm 80 (by decide +kernel) (by decide +kernel)), (jm 1256 (by decide +kernel) (by decide +kernel))⟩, rfl, by decide +kernel, by decide +kernel, by decide +kernel⟩
theorem s_L_115 : jSiteV RL 115 RX6 yX6_differ cX6_differ 5 (some .long) 1 := ⟨⟨(jm 775 (by decide +kernel) (by decide +kernel)), (jm 776 (by decide +kernel) (by decide +kernel)), (jm 777 (by decide +kernel) (by decide +kernel)), (jm 73 (by decide +kernel) (by decide +kernel)), (jm 778 (by decide +kernel) (by decide +kernel))⟩, rfl, by decide +kernel, by decide +kernel, by decide +kernel⟩
theorem s_L_118 : jSiteV RL 118 RX7 yX7_differ cX7_differ 5 (some .long) 1 := ⟨⟨(jm 1258 (by decide +kernel) (by decide +kernel)), (jm 1259 (by decide +kernel) (by decide +kernel)), (jm 1260 (by decide +kernel) (by decide +kernel)), (jm 80 (by decide +kernel) (by decide +kernel)), (jm 1261 (by decide +kernel) (by decide +kernel))⟩, rfl, by decide +kernel, by decide +kernel, by decide +kernel⟩
theorem s_L_119 : jSiteV RL 119 RX6 yX6_kept cX6_kept 1 (some .int) 0 := ⟨⟨(jm 793 (by decide +kernel) (by decide +kernel)), (jm 794 (by decide +kernel) (by decide +kernel)), (jm 795 (by decide +kernel) (by decide +kernel)), (jm 73 (by decide +kernel) (by decide +kernel)), (jm 796 (by decide +kernel) (by decide +kernel))⟩, rfl, by decide +kernel, by decide +kernel, by decide +kernel⟩
theorem s_L_122 : jSiteV RL 122 RX7 yX7_kept cX7_kept 4 (some .int) 0 := ⟨⟨(jm 1270 (by decide +kernel) (by decide +kernel)), (jm 1271 (by decide +kernel) (by decide +kernel)), (jm 1272 (by decide +kernel) (by decide +kernel)), (jm 80 (by decide +kernel) (by decide +kernel)), (jm 1273 (by decide +kernel) (by decide +kernel))⟩, rfl, by decide +kernel, by decide +kernel, by decide +kernel⟩
theorem s_L_123 : jSiteV RL 123 RX6 yX6_would cX6_would 4 (some .int) 2 := ⟨⟨(jm 801 (by decide +kernel) (by decide +kernel)), (jm 802 (by decide +kernel) (by decide +kernel)), (jm 803 (by decide +kernel) (by decide +kernel)), (jm 73 (by decide +kernel) (by decide +kernel)), (jm 804 (by decide +kernel) (by decide +kernel))⟩, rfl, by decide +kernel, by decide +kernel, by decide +kernel⟩
theorem s_L_126 : jSiteV RL 126 RX7 yX7_would cX7_would 7 (some .int) 2 := ⟨⟨(jm 1274 (by decide +kernel) (by decide +kernel)), (jm 1275 (by decide +kernel) (by decide +kernel)), (jm 1276 (by decide +kernel) (by decide +kernel)), (jm 80 (by decide +kernel) (by decide +kernel)), (jm 1277 (by decide +kernel) (by decide +kernel))⟩, rfl, by decide +kernel, by decide +kernel, by decide +kernel⟩
theorem s_L_127 : jSiteV RL 127 RX6 yX6_plan cX6_plan 9 (some .int) 3 := ⟨⟨(jm 829 (by decide +kernel) (by decide +kernel)), (jm 830 (by decide +kernel) (by decide +kernel)), (jm 831 (by decide +kernel) (by decide +kernel)), (jm 73 (by decide +kernel) (by decide +kernel)), (jm 832 (by decide +kernel) (by decide +kernel))⟩, rfl, by decide +kernel, by decide +kernel, by decide +kernel⟩
theorem s_L_130 : jSiteV RL 130 RX7 yX7_plan cX7_plan 5 (some .int) 3 := ⟨⟨(jm 1285 (by decide +kernel) (by decide +kernel)), (jm 1286 (by decide +kernel) (by decide +kernel)), (jm 1287 (by decide +kernel) (by decide +kernel)), (jm 80 (by decide +kernel) (by decide +kernel)), (jm 1288 (by decide +kernel) (by decide +kernel))⟩, rfl, by decide +kernel, by decide +kernel, by decide +kernel⟩
theorem s_L_131 : jSiteV RL 131 RX6 yX6_rule cX6_rule 10 (some .int) 3 := ⟨⟨(jm 846 (by decide +kernel) (by decide +kernel)), (jm 847 (by decide +kernel) (by decide +kernel)), (jm 848 (by decide +kernel) (by decide +kernel)), (jm 73 (by decide +kernel) (by decide +kernel)), (jm 849 (by decide +kernel) (by decide +kernel))⟩, rfl, by decide +kernel, by decide +kernel, by decide +kernel⟩
theorem s_L_134 : jSiteV RL 134 RX7 yX7_rule cX7_rule 9 (some .int) 3 := ⟨⟨(jm 1297 (by decide +kernel) (by decide +kernel)), (jm 1298 (by decide +kernel) (by decide +kernel)), (jm 1299 (by decide +kernel) (by decide +kernel)), (jm 80 (by decide +kernel) (by decide +kernel)), (jm 1300 (by decide +kernel) (by decide +kernel))⟩, rfl, by decide +kernel, by decide +kernel, by decide +kernel⟩
theorem s_L_135 : jSiteV RL 135 RX6 yX6_size cX6_size 8 (some .int) 4 := ⟨⟨(jm 858 (by decide +kernel) (by decide +kernel)), (jm 859 (by decide +kernel) (by decide +kernel)), (jm 860 (by decide +kernel) (by decide +kernel)), (jm 73 (by decide +kernel) (by decide +kernel)), (jm 861 (by decide +kernel) (by decide +kernel))⟩, rfl, by decide +kernel, by decide +kernel, by decide +kernel⟩
theorem s_L_139 : jSiteV RL 139 RX7 yX7_size cX7_size 7 (some .int) 4 := ⟨⟨(jm 1306 (by decide +kernel) (by decide +kernel)), (jm 1307 (by decide +kernel) (by decide +kernel)), (jm 1308 (by decide +kernel) (by decide +kernel)), (jm 80 (by decide +kernel) (by decide +kernel)), (jm 1309 (by decide +kernel) (by decide +kernel))⟩, rfl, by decide +kernel, by decide +kernel, by decide +kernel⟩
theorem s_L_140 : jSiteV RL 140 RX6 yX6_modes cX6_modes 8 (some .int) 2 := ⟨⟨(jm 862 (by decide +kernel) (by decide +kernel)), (jm 863 (by decide +kernel) (by decide +kernel)), (jm 864 (by decide +kernel) (by decide +kernel)), (jm 73 (by decide +kernel) (by decide +kernel)), (jm 865 (by decide +kernel) (by decide +kernel))⟩, rfl, by decide +kernel, by decide +kernel, by decide +kernel⟩
theorem s_L_143 : jSiteV RL 143 RX7 yX7_modes cX7_modes 8 (some .int) 2 := ⟨⟨(jm 1310 (by decide +kernel) (by decide +kernel)), (jm 1311 (by decide +kernel) (by decide +kernel)), (jm 1312 (by decide +kernel) (by decide +kernel)), (jm 80 (by decide +kernel) (by decide +kernel)), (jm 1313 (by decide +kernel) (by decide +kernel))⟩, rfl, by decide +kernel, by decide +kernel, by decide +kernel⟩
theorem s_L_144 : jSiteV RL 144 RX6 yX6_foresight cX6_foresight 5 (some .int) 3 := ⟨⟨(jm 866 (by decide +kernel) (by decide +kernel)), (jm 867 (by decide +kernel) (by decide +kernel)), (jm 868 (by decide +kernel) (by decide +kernel)), (jm 73 (by decide +kernel) (by decide +kernel)), (jm 869 (by decide +kernel) (by decide +kernel))⟩, rfl, by decide +kernel, by decide +kernel, by decide +kernel⟩
theorem s_L_147 : jSiteV RL 147 RX7 yX7_foresight cX7_foresight 13 (some .int) 3 := ⟨⟨(jm 1314 (by decide +kernel) (by decide +kernel)), (jm 1315 (by decide +kernel) (by decide +kernel)), (jm 1316 (by decide +kernel) (by decide +kernel)), (jm 80 (by decide +kernel) (by decide +kernel)), (jm 1317 (by decide +kernel) (by decide +kernel))⟩, rfl, by decide +kernel, by decide +kernel, by decide +kernel⟩
theorem s_L_148 : jSiteV RL 148 RX6 yX6_reuse cX6_reuse 5 (some .int) 3 := ⟨⟨(jm 878 (by decide +kernel) (by decide +kernel)), (jm 879 (by decide +kernel) (by decide +kernel)), (jm 880 (by decide +kernel) (by decide +kernel)), (jm 73 (by decide +kernel) (by decide +kernel)), (jm 881 (by decide +kernel) (by decide +kernel))⟩, rfl, by decide +kernel, by decide +kernel, by decide +kernel⟩
theorem s_L_151 : jSiteV RL 151 RX7 yX7_reuse cX7_reuse 5 (some .int) 3 := ⟨⟨(jm 1322 (by decide +kernel) (by decide +kernel)), (jm 1323 (by decide +kernel) (by decide +kernel)), (jm 1324 (by decide +kernel) (by decide +kernel)), (jm 80 (by decide +kernel) (by decide +kernel)), (jm 1325 (by decide +kernel) (by decide +kernel))⟩, rfl, by decide +kernel, by decide +kernel, by decide +kernel⟩
theorem s_L_152 : jSiteV RL 152 RX6 yX6_rowOf cX6_rowOf 5 (some .int) 3 := ⟨⟨(jm 890 (by decide +kernel) (by decide +kernel)), (jm 891 (by decide +kernel) (by decide +kernel)), (jm 892 (by decide +kernel) (by decide +kernel)), (jm 73 (by decide +kernel) (by decide +kernel)), (jm 893 (by decide +kernel) (by decide +kernel))⟩, rfl, by decide +kernel, by decide +kernel, by decide +kernel⟩
theorem s_L_155 : jSiteV RL 155 RX7 yX7_rowOf cX7_rowOf 10 (some .int) 3 := ⟨⟨(jm 1334 (by decide +kernel) (by decide +kernel)), (jm 1335 (by decide +kernel) (by decide +kernel)), (jm 1336 (by decide +kernel) (by decide +kernel)), (jm 80 (by decide +kernel) (by decide +kernel)), (jm 1337 (by decide +kernel) (by decide +kernel))⟩, rfl, by decide +kernel, by decide +kernel, by decide +kernel⟩
theorem s_L_156 : jSiteV RL 156 RX6 yX6_judge cX6_judge 5 (some .int) 2 := ⟨⟨(jm 903 (by decide +kernel) (by decide +kernel)), (jm 904 (by decide +kernel) (by decide +kernel)), (jm 905 (by decide +kernel) (by decide +kernel)), (jm 73 (by decide +kernel) (by decide +kernel)), (jm 906 (by decide +kernel) (by decide +kernel))⟩, rfl, by decide +kernel, by decide +kernel, by decide +kernel⟩
theorem s_L_159 : jSiteV RL 159 RX7 yX7_judge cX7_judge 6 (some .int) 2 := ⟨⟨(jm 1339 (by decide +kernel) (by decide +kernel)), (jm 1340 (by decide +kernel) (by decide +kernel)), (jm 1341 (by decide +kernel) (by decide +kernel)), (jm 80 (by decide +kernel) (by decide +kernel)), (jm 1342 (by decide +kernel) (by decide +kernel))⟩, rfl, by decide +kernel, by decide +kernel, by decide +kernel⟩
theorem s_L_160 : jSiteV RL 160 RX6 yX6_past cX6_past 3 (some .int) 2 := ⟨⟨(jm 908 (by decide +kernel) (by decide +kernel)), (jm 909 (by decide +kernel) (by decide +kernel)), (jm 910 (by decide +kernel) (by decide +kernel)), (jm 73 (by decide +kernel) (by decide +kernel)), (jm 911 (by decide +kernel) (by decide +kernel))⟩, rfl, by decide +kernel, by decide +kernel, by decide +kernel⟩
theorem s_L_163 : jSiteV RL 163 RX7 yX7_past cX7_past 3 (some .int) 2 := ⟨⟨(jm 1343 (by decide +kernel) (by decide +kernel)), (jm 1344 (by decide +kernel) (by decide +kernel)), (jm 1345 (by decide +kernel) (by decide +kernel)), (jm 80 (by decide +kernel) (by decide +kernel)), (jm 1346 (by decide +kernel) (by decide +kernel))⟩, rfl, by decide +kernel, by decide +kernel, by decide +kernel⟩
theorem s_L_164 : jSiteV RL 164 RX6 yX6_often cX6_often 2 (some .int) 1 := ⟨⟨(jm 916 (by decide +kernel) (by decide +kernel)), (jm 917 (by decide +kernel) (by decide +kernel)), (jm 918 (by decide +kernel) (by decide +kernel)), (jm 73 (by decide +kernel) (by decide +kernel)), (jm 919 (by decide +kernel) (by decide +kernel))⟩, rfl, by decide +kernel, by decide +kernel, by decide +kernel⟩
theorem s_L_167 : jSiteV RL 167 RX7 yX7_often cX7_often 2 (some .int) 1 := ⟨⟨(jm 1347 (by decide +kernel) (by decide +kernel)), (jm 1348 (by decide +kernel) (by decide +kernel)), (jm 1349 (by decide +kernel) (by decide +kernel)), (jm 80 (by decide +kernel) (by decide +kernel)), (jm 1350 (by decide +kernel) (by decide +kernel))⟩, rfl, by decide +kernel, by decide +kernel, by decide +kernel⟩
theorem s_L_168 : jSiteV RL 168 RX6 yX6_days cX6_days 7 (some .int) 1 := ⟨⟨(jm 924 (by decide +kernel) (by decide +kernel)), (jm 925 (by decide +kernel) (by decide +kernel)), (jm 926 (by decide +kernel) (by decide +kernel)), (jm 73 (by decide +kernel) (by decide +kernel)), (jm 927 (by decide +kernel) (by decide +kernel))⟩, rfl, by decide +kernel, by decide +kernel, by decide +kernel⟩
theorem s_L_171 : jSiteV RL 171 RX7 yX7_days cX7_days 6 (some .int) 1 := ⟨⟨(jm 1351 (by decide +kernel) (by decide +kernel)), (jm 1352 (by decide +kernel) (by decide +kernel)), (jm 1353 (by decide +kernel) (by decide +kernel)), (jm 80 (by decide +kernel) (by decide +kernel)), (jm 1354 (by decide +kernel) (by decide +kernel))⟩, rfl, by decide +kernel, by decide +kernel, by decide +kernel⟩
theorem s_L_172 : jSiteV RL 172 RX6 yX6_seed cX6_seed 3 (some .int) 1 := ⟨⟨(jm 934 (by decide +kernel) (by decide +kernel)), (jm 935 (by decide +kernel) (by decide +kernel)), (jm 936 (by decide +kernel) (by decide +kernel)), (jm 73 (by decide +kernel) (by decide +kernel)), (jm 937 (by decide +kernel) (by decide +kernel))⟩, rfl, by decide +kernel, by decide +kernel, by decide +kernel⟩
theorem s_L_175 : jSiteV RL 175 RX7 yX7_seed cX7_seed 3 (some .int) 1 := ⟨⟨(jm 1356 (by decide +kernel) (by decide +kernel)), (jm 1357 (by decide +kernel) (by decide +kernel)), (jm 1358 (by decide +kernel) (by decide +kernel)), (jm 80 (by decide +kernel) (by decide +kernel)), (jm 1359 (by decide +kernel) (by decide +kernel))⟩, rfl, by decide +kernel, by decide +kernel, by decide +kernel⟩
theorem s_L_176 : jSiteV RL 176 RX6 yX6_image cX6_image 1 (some .int) 0 := ⟨⟨(jm 938 (by decide +kernel) (by decide +kernel)), (jm 939 (by decide +kernel) (by decide +kernel)), (jm 940 (by decide +kernel) (by decide +kernel)), (jm 73 (by decide +kernel) (by decide +kernel)), (jm 941 (by decide +kernel) (by decide +kernel))⟩, rfl, by decide +kernel, by decide +kernel, by decide +kernel⟩
theorem s_L_179 : jSiteV RL 179 RX7 yX7_image cX7_image 1 (some .int) 0 := ⟨⟨(jm 1360 (by decide +kernel) (by decide +kernel)), (jm 1361 (by decide +kernel) (by decide +kernel)), (jm 1362 (by decide +kernel) (by decide +kernel)), (jm 80 (by decide +kernel) (by decide +kernel)), (jm 1363 (by decide +kernel) (by decide +kernel))⟩, rfl, by decide +kernel, by decide +kernel, by decide +kernel⟩
theorem s_L_180 : jSiteV RL 180 RX6 yX6_back cX6_back 1 (some .int) 0 := ⟨⟨(jm 942 (by decide +kernel) (by decide +kernel)), (jm 943 (by decide +kernel) (by decide +kernel)), (jm 944 (by decide +kernel) (by decide +kernel)), (jm 73 (by decide +kernel) (by decide +kernel)), (jm 945 (by decide +kernel) (by decide +kernel))⟩, rfl, by decide +kernel, by decide +kernel, by decide +kernel⟩
theorem s_L_183 : jSiteV RL 183 RX7 yX7_back cX7_back 4 (some .int) 0 := ⟨⟨(jm 1364 (by decide +kernel) (by decide +kernel)), (jm 1365 (by decide +kernel) (by decide +kernel)), (jm 1366 (by decide +kernel) (by decide +kernel)), (jm 80 (by decide +kernel) (by decide +kernel)), (jm 1367 (by decide +kernel) (by decide +kernel))⟩, rfl, by decide +kernel, by decide +kernel, by decide +kernel⟩
theorem s_L_184 : jSiteV RL 184 RX6 yX6_status cX6_status 3 (some .int) 1 := ⟨⟨(jm 946 (by decide +kernel) (by decide +kernel)), (jm 947 (by decide +kernel) (by decide +kernel)), (jm 948 (by decide +kernel) (by decide +kernel)), (jm 73 (by decide +kernel) (by decide +kernel)), (jm 949 (by decide +kernel) (by decide +kernel))⟩, rfl, by decide +kernel, by decide +kernel, by decide +kernel⟩
theorem s_L_187 : jSiteV RL 187 RX7 yX7_status cX7_status 4 (some .int) 1 := ⟨⟨(jm 1368 (by decide +kernel) (by decide +kernel)), (jm 1369 (by decide +kernel) (by decide +kernel)), (jm 1370 (by decide +kernel) (by decide +kernel)), (jm 80 (by decide +kernel) (by decide +kernel)), (jm 1371 (by decide +kernel) (by decide +kernel))⟩, rfl, by decide +kernel, by decide +kernel, by decide +kernel⟩
end LSITES
theorem sh_root : shC 1 = 7 := by decide +kernel
theorem sh_mod : shC 164 = 8 := by decide +kernel
def L_law_F1 (len : Nat) (xs : Nat → Int32) (g4 : Int32 → jI → jL → Option (Unit)) : Int32 → jI → jL → Option (Unit) := fun (v1 : Int32) (I2 : jI) (L3 : jL) =>
if ((Int32.ofNat len) - (6 : Int32)) < v1 then (
some ())
else (
if jin v1 len then (
jlet (fun (I7 : jI) (L8 : jL) =>
g4 (v1 + (6 : Int32)) I7 L8) (fun (k9 : jI → jL → Option (Unit)) =>
if ((xs (v1).toNatClampNeg) &&& (63 : Int32)) = (0 : Int32) then (
if jin (v1 + (1 : Int32)) len then (
if jin (v1 + (2 : Int32)) len then (
if jin (v1 + (3 : Int32)) len then (
jb3 (X6_row 1 (xs ((v1 + (1 : Int32))).toNatClampNeg) (xs ((v1 + (2 : Int32))).toNatClampNeg) (xs ((v1 + (3 : Int32))).toNatClampNeg) I2 L3) (fun (y14 : Int32) (I15 : jI) (L16 : jL) =>
if jin (v1 + (1 : Int32)) len then (
if jin (v1 + (2 : Int32)) len then (
if jin (v1 + (3 : Int32)) len then (
jb3 (X7_row 164 (xs ((v1 + (1 : Int32))).toNatClampNeg) (xs ((v1 + (2 : Int32))).toNatClampNeg) (xs ((v1 + (3 : Int32))).toNatClampNeg) I15 L16) (fun (y21 : Int32) (I22 : jI) (L23 : jL) =>
if y14 = y21 then (
k9 I22 L23)
else (
none))) else none) else none) else none)) else none) else none) else none)
else if ((xs (v1).toNatClampNeg) &&& (63 : Int32)) = (1 : Int32) then (
if jin (v1 + (1 : Int32)) len then (
if jin (v1 + (2 : Int32)) len then (
if jin (v1 + (3 : Int32)) len then (
if jin (v1 + (4 : Int32)) len then (
jb3 (X6_set 1 (xs ((v1 + (1 : Int32))).toNatClampNeg) (xs ((v1 + (2 : Int32))).toNatClampNeg) ((jlshl (((xs ((v1 + (3 : Int32))).toNatClampNeg)).toInt64) (32 : Int32)) ||| (((xs ((v1 + (4 : Int32))).toNatClampNeg)).toInt64 &&& (4294967295 : Int64))) I2 L3) (fun (y31 : Int32) (I32 : jI) (L33 : jL) =>
if jin (v1 + (1 : Int32)) len then (
if jin (v1 + (2 : Int32)) len then (
if jin (v1 + (3 : Int32)) len then (
if jin (v1 + (4 : Int32)) len then (
jb3 (X7_set 164 (xs ((v1 + (1 : Int32))).toNatClampNeg) (xs ((v1 + (2 : Int32))).toNatClampNeg) ((jlshl (((xs ((v1 + (3 : Int32))).toNatClampNeg)).toInt64) (32 : Int32)) ||| (((xs ((v1 + (4 : Int32))).toNatClampNeg)).toInt64 &&& (4294967295 : Int64))) I32 L33) (fun (y39 : Int32) (I40 : jI) (L41 : jL) =>
if y31 = y39 then (
k9 I40 L41)
else (
none))) else none) else none) else none) else none)) else none) else none) else none) else none)
else if ((xs (v1).toNatClampNeg) &&& (63 : Int32)) = (2 : Int32) then (
if jin (v1 + (1 : Int32)) len then (
if jin (v1 + (2 : Int32)) len then (
if jin (v1 + (3 : Int32)) len then (
if jin (v1 + (4 : Int32)) len then (
if jin (v1 + (5 : Int32)) len then (
jb3 (X6_copy 1 (xs ((v1 + (1 : Int32))).toNatClampNeg) (xs ((v1 + (2 : Int32))).toNatClampNeg) (xs ((v1 + (3 : Int32))).toNatClampNeg) (xs ((v1 + (4 : Int32))).toNatClampNeg) (xs ((v1 + (5 : Int32))).toNatClampNeg) I2 L3) (fun (y50 : Int32) (I51 : jI) (L52 : jL) =>
if jin (v1 + (1 : Int32)) len then (
if jin (v1 + (2 : Int32)) len then (
if jin (v1 + (3 : Int32)) len then (
if jin (v1 + (4 : Int32)) len then (
if jin (v1 + (5 : Int32)) len then (
jb3 (X7_copy 164 (xs ((v1 + (1 : Int32))).toNatClampNeg) (xs ((v1 + (2 : Int32))).toNatClampNeg) (xs ((v1 + (3 : Int32))).toNatClampNeg) (xs ((v1 + (4 : Int32))).toNatClampNeg) (xs ((v1 + (5 : Int32))).toNatClampNeg) I51 L52) (fun (y59 : Int32) (I60 : jI) (L61 : jL) =>
if y50 = y59 then (
k9 I60 L61)
else (
none))) else none) else none) else none) else none) else none)) else none) else none) else none) else none) else none)
else if ((xs (v1).toNatClampNeg) &&& (63 : Int32)) = (3 : Int32) then (
if jin (v1 + (1 : Int32)) len then (
if jin (v1 + (2 : Int32)) len then (
(X6_element 1 (xs ((v1 + (1 : Int32))).toNatClampNeg) (xs ((v1 + (2 : Int32))).toNatClampNeg) I2 L3).bind (fun (y67 : Int64) =>
if jin (v1 + (1 : Int32)) len then (
if jin (v1 + (2 : Int32)) len then (
(X7_element 164 (xs ((v1 + (1 : Int32))).toNatClampNeg) (xs ((v1 + (2 : Int32))).toNatClampNeg) I2 L3).bind (fun (y71 : Int64) =>
if (lg_cmp y67 y71) = 0 then (
k9 I2 L3)
else (
none))) else none) else none)) else none) else none)
else if ((xs (v1).toNatClampNeg) &&& (63 : Int32)) = (4 : Int32) then (
if jin (v1 + (1 : Int32)) len then (
(X6_holds 1 (xs ((v1 + (1 : Int32))).toNatClampNeg) I2).bind (fun (y76 : Int32) =>
if jin (v1 + (1 : Int32)) len then (
(X7_holds 164 (xs ((v1 + (1 : Int32))).toNatClampNeg) I2).bind (fun (y79 : Int32) =>
if y76 = y79 then (
k9 I2 L3)
else (
none))) else none)) else none)
else if ((xs (v1).toNatClampNeg) &&& (63 : Int32)) = (5 : Int32) then (
if jin (v1 + (1 : Int32)) len then (
if jin (v1 + (2 : Int32)) len then (
jb2 (X6_show 1 (xs ((v1 + (1 : Int32))).toNatClampNeg) (xs ((v1 + (2 : Int32))).toNatClampNeg) I2) (fun (y85 : Int32) (I86 : jI) =>
if jin (v1 + (1 : Int32)) len then (
if jin (v1 + (2 : Int32)) len then (
jb2 (X7_show 164 (xs ((v1 + (1 : Int32))).toNatClampNeg) (xs ((v1 + (2 : Int32))).toNatClampNeg) I86) (fun (y90 : Int32) (I91 : jI) =>
if y85 = y90 then (
k9 I91 L3)
else (
none))) else none) else none)) else none) else none)
else if ((xs (v1).toNatClampNeg) &&& (63 : Int32)) = (6 : Int32) then (
if jin (v1 + (1 : Int32)) len then (
if jin (v1 + (2 : Int32)) len then (
jb2 (X6_says 1 (xs ((v1 + (1 : Int32))).toNatClampNeg) (xs ((v1 + (2 : Int32))).toNatClampNeg) I2) (fun (y97 : Int32) (I98 : jI) =>
if jin (v1 + (1 : Int32)) len then (
if jin (v1 + (2 : Int32)) len then (
jb2 (X7_says 164 (xs ((v1 + (1 : Int32))).toNatClampNeg) (xs ((v1 + (2 : Int32))).toNatClampNeg) I98) (fun (y102 : Int32) (I103 : jI) =>
if y97 = y102 then (
k9 I103 L3)
else (
none))) else none) else none)) else none) else none)
else if ((xs (v1).toNatClampNeg) &&& (63 : Int32)) = (7 : Int32) then (
if jin (v1 + (1 : Int32)) len then (
jb2 (X6_feed 1 (xs ((v1 + (1 : Int32))).toNatClampNeg) I2) (fun (y108 : Int32) (I109 : jI) =>
if jin (v1 + (1 : Int32)) len then (
jb2 (X7_feed 164 (xs ((v1 + (1 : Int32))).toNatClampNeg) I109) (fun (y112 : Int32) (I113 : jI) =>
if y108 = y112 then (
k9 I113 L3)
else (
none))) else none)) else none)
else if ((xs (v1).toNatClampNeg) &&& (63 : Int32)) = (8 : Int32) then (
jb2 (X6_wipe 1 I2) (fun (y117 : Int32) (I118 : jI) =>
jb2 (X7_wipe 164 I118) (fun (y120 : Int32) (I121 : jI) =>
if y117 = y120 then (
k9 I121 L3)
else (
none))))
else if ((xs (v1).toNatClampNeg) &&& (63 : Int32)) = (9 : Int32) then (
jb2 (X6_traffic 1 I2) (fun (y125 : Int32) (I126 : jI) =>
jb2 (X7_traffic 164 I126) (fun (y128 : Int32) (I129 : jI) =>
if y125 = y128 then (
k9 I129 L3)
else (
none))))
else if ((xs (v1).toNatClampNeg) &&& (63 : Int32)) = (10 : Int32) then (
if jin (v1 + (1 : Int32)) len then (
if jin (v1 + (2 : Int32)) len then (
if jin (v1 + (3 : Int32)) len then (
jb2 (X6_level 1 (xs ((v1 + (1 : Int32))).toNatClampNeg) (xs ((v1 + (2 : Int32))).toNatClampNeg) (xs ((v1 + (3 : Int32))).toNatClampNeg) I2) (fun (y136 : Int32) (I137 : jI) =>
if jin (v1 + (1 : Int32)) len then (
if jin (v1 + (2 : Int32)) len then (
if jin (v1 + (3 : Int32)) len then (
jb2 (X7_level 164 (xs ((v1 + (1 : Int32))).toNatClampNeg) (xs ((v1 + (2 : Int32))).toNatClampNeg) (xs ((v1 + (3 : Int32))).toNatClampNeg) I137) (fun (y142 : Int32) (I143 : jI) =>
if y136 = y142 then (
k9 I143 L3)
else (
none))) else none) else none) else none)) else none) else none) else none)
else if ((xs (v1).toNatClampNeg) &&& (63 : Int32)) = (11 : Int32) then (
jb2 (X6_drop 1 I2) (fun (y147 : Int32) (I148 : jI) =>
jb2 (X7_drop 164 I148) (fun (y150 : Int32) (I151 : jI) =>
if y147 = y150 then (
k9 I151 L3)
else (
none))))
else if ((xs (v1).toNatClampNeg) &&& (63 : Int32)) = (12 : Int32) then (
if jin (v1 + (1 : Int32)) len then (
if jin (v1 + (2 : Int32)) len then (
jb2 (X6_mode 1 (xs ((v1 + (1 : Int32))).toNatClampNeg) (xs ((v1 + (2 : Int32))).toNatClampNeg) I2) (fun (y157 : Int32) (I158 : jI) =>
if jin (v1 + (1 : Int32)) len then (
if jin (v1 + (2 : Int32)) len then (
jb2 (X7_mode 164 (xs ((v1 + (1 : Int32))).toNatClampNeg) (xs ((v1 + (2 : Int32))).toNatClampNeg) I158) (fun (y162 : Int32) (I163 : jI) =>
if y157 = y162 then (
k9 I163 L3)
else (
none))) else none) else none)) else none) else none)
else if ((xs (v1).toNatClampNeg) &&& (63 : Int32)) = (13 : Int32) then (
if jin (v1 + (1 : Int32)) len then (
if jin (v1 + (2 : Int32)) len then (
jb2 (X6_tell 1 (xs ((v1 + (1 : Int32))).toNatClampNeg) (xs ((v1 + (2 : Int32))).toNatClampNeg) I2) (fun (y169 : Int32) (I170 : jI) =>
if jin (v1 + (1 : Int32)) len then (
if jin (v1 + (2 : Int32)) len then (
jb2 (X7_tell 164 (xs ((v1 + (1 : Int32))).toNatClampNeg) (xs ((v1 + (2 : Int32))).toNatClampNeg) I170) (fun (y174 : Int32) (I175 : jI) =>
if y169 = y174 then (
k9 I175 L3)
else (
none))) else none) else none)) else none) else none)
else if ((xs (v1).toNatClampNeg) &&& (63 : Int32)) = (14 : Int32) then (
if jin (v1 + (1 : Int32)) len then (
jb2 (X6_read 1 (xs ((v1 + (1 : Int32))).toNatClampNeg) I2) (fun (y180 : Int32) (I181 : jI) =>
if jin (v1 + (1 : Int32)) len then (
jb2 (X7_read 164 (xs ((v1 + (1 : Int32))).toNatClampNeg) I181) (fun (y184 : Int32) (I185 : jI) =>
if y180 = y184 then (
k9 I185 L3)
else (
none))) else none)) else none)
else if ((xs (v1).toNatClampNeg) &&& (63 : Int32)) = (15 : Int32) then (
if jin (v1 + (1 : Int32)) len then (
if jin (v1 + (2 : Int32)) len then (
jb2 (X6_write 1 (xs ((v1 + (1 : Int32))).toNatClampNeg) (xs ((v1 + (2 : Int32))).toNatClampNeg) I2) (fun (y191 : Int32) (I192 : jI) =>
if jin (v1 + (1 : Int32)) len then (
if jin (v1 + (2 : Int32)) len then (
jb2 (X7_write 164 (xs ((v1 + (1 : Int32))).toNatClampNeg) (xs ((v1 + (2 : Int32))).toNatClampNeg) I192) (fun (y196 : Int32) (I197 : jI) =>
if y191 = y196 then (
k9 I197 L3)
else (
none))) else none) else none)) else none) else none)
else if ((xs (v1).toNatClampNeg) &&& (63 : Int32)) = (16 : Int32) then (
if jin (v1 + (1 : Int32)) len then (
jb2 (X6_sweep 1 (xs ((v1 + (1 : Int32))).toNatClampNeg) I2) (fun (y202 : Int32) (I203 : jI) =>
if jin (v1 + (1 : Int32)) len then (
jb2 (X7_sweep 164 (xs ((v1 + (1 : Int32))).toNatClampNeg) I203) (fun (y206 : Int32) (I207 : jI) =>
if y202 = y206 then (
k9 I207 L3)
else (
none))) else none)) else none)
else if ((xs (v1).toNatClampNeg) &&& (63 : Int32)) = (17 : Int32) then (
jb2 (X6_clear 1 I2) (fun (y211 : Int32) (I212 : jI) =>
jb2 (X7_clear 164 I212) (fun (y214 : Int32) (I215 : jI) =>
if y211 = y214 then (
k9 I215 L3)
else (
none))))
else if ((xs (v1).toNatClampNeg) &&& (63 : Int32)) = (18 : Int32) then (
if jin (v1 + (1 : Int32)) len then (
if jin (v1 + (2 : Int32)) len then (
jb2 (X6_levelOf 1 (xs ((v1 + (1 : Int32))).toNatClampNeg) (xs ((v1 + (2 : Int32))).toNatClampNeg) I2) (fun (y221 : Int32) (I222 : jI) =>
if jin (v1 + (1 : Int32)) len then (
if jin (v1 + (2 : Int32)) len then (
jb2 (X7_levelOf 164 (xs ((v1 + (1 : Int32))).toNatClampNeg) (xs ((v1 + (2 : Int32))).toNatClampNeg) I222) (fun (y226 : Int32) (I227 : jI) =>
if y221 = y226 then (
k9 I227 L3)
else (
none))) else none) else none)) else none) else none)
else if ((xs (v1).toNatClampNeg) &&& (63 : Int32)) = (19 : Int32) then (
if jin (v1 + (1 : Int32)) len then (
if jin (v1 + (2 : Int32)) len then (
if jin (v1 + (3 : Int32)) len then (
jb2 (X6_slot 1 (xs ((v1 + (1 : Int32))).toNatClampNeg) (xs ((v1 + (2 : Int32))).toNatClampNeg) (xs ((v1 + (3 : Int32))).toNatClampNeg) I2) (fun (y234 : Int32) (I235 : jI) =>
if jin (v1 + (1 : Int32)) len then (
if jin (v1 + (2 : Int32)) len then (
if jin (v1 + (3 : Int32)) len then (
jb2 (X7_slot 164 (xs ((v1 + (1 : Int32))).toNatClampNeg) (xs ((v1 + (2 : Int32))).toNatClampNeg) (xs ((v1 + (3 : Int32))).toNatClampNeg) I235) (fun (y240 : Int32) (I241 : jI) =>
if y234 = y240 then (
k9 I241 L3)
else (
none))) else none) else none) else none)) else none) else none) else none)
else if ((xs (v1).toNatClampNeg) &&& (63 : Int32)) = (20 : Int32) then (
if jin (v1 + (1 : Int32)) len then (
if jin (v1 + (2 : Int32)) len then (
jb2 (X6_value 1 (xs ((v1 + (1 : Int32))).toNatClampNeg) (xs ((v1 + (2 : Int32))).toNatClampNeg) I2) (fun (y247 : Int32) (I248 : jI) =>
if jin (v1 + (1 : Int32)) len then (
if jin (v1 + (2 : Int32)) len then (
jb2 (X7_value 164 (xs ((v1 + (1 : Int32))).toNatClampNeg) (xs ((v1 + (2 : Int32))).toNatClampNeg) I248) (fun (y252 : Int32) (I253 : jI) =>
if y247 = y252 then (
k9 I253 L3)
else (
none))) else none) else none)) else none) else none)
else if ((xs (v1).toNatClampNeg) &&& (63 : Int32)) = (21 : Int32) then (
if jin (v1 + (1 : Int32)) len then (
jb2 (X6_where 1 (xs ((v1 + (1 : Int32))).toNatClampNeg) I2) (fun (y258 : Int32) (I259 : jI) =>
if jin (v1 + (1 : Int32)) len then (
jb2 (X7_where 164 (xs ((v1 + (1 : Int32))).toNatClampNeg) I259) (fun (y262 : Int32) (I263 : jI) =>
if y258 = y262 then (
k9 I263 L3)
else (
none))) else none)) else none)
else if ((xs (v1).toNatClampNeg) &&& (63 : Int32)) = (22 : Int32) then (
if jin (v1 + (1 : Int32)) len then (
jb2 (X6_pages 1 (xs ((v1 + (1 : Int32))).toNatClampNeg) I2) (fun (y268 : Int64) (I269 : jI) =>
if jin (v1 + (1 : Int32)) len then (
jb2 (X7_pages 164 (xs ((v1 + (1 : Int32))).toNatClampNeg) I269) (fun (y272 : Int64) (I273 : jI) =>
if (lg_cmp y268 y272) = 0 then (
k9 I273 L3)
else (
none))) else none)) else none)
else if ((xs (v1).toNatClampNeg) &&& (63 : Int32)) = (23 : Int32) then (
if jin (v1 + (1 : Int32)) len then (
jb2 (X6_differ 1 (xs ((v1 + (1 : Int32))).toNatClampNeg) I2) (fun (y278 : Int64) (I279 : jI) =>
if jin (v1 + (1 : Int32)) len then (
jb2 (X7_differ 164 (xs ((v1 + (1 : Int32))).toNatClampNeg) I279) (fun (y282 : Int64) (I283 : jI) =>
if (lg_cmp y278 y282) = 0 then (
k9 I283 L3)
else (
none))) else none)) else none)
else if ((xs (v1).toNatClampNeg) &&& (63 : Int32)) = (24 : Int32) then (
(X6_kept 1 I2).bind (fun (y287 : Int32) =>
(X7_kept 164 I2).bind (fun (y289 : Int32) =>
if y287 = y289 then (
k9 I2 L3)
else (
none))))
else if ((xs (v1).toNatClampNeg) &&& (63 : Int32)) = (25 : Int32) then (
if jin (v1 + (1 : Int32)) len then (
if jin (v1 + (2 : Int32)) len then (
jb2 (X6_would 1 (xs ((v1 + (1 : Int32))).toNatClampNeg) (xs ((v1 + (2 : Int32))).toNatClampNeg) I2) (fun (y295 : Int32) (I296 : jI) =>
if jin (v1 + (1 : Int32)) len then (
if jin (v1 + (2 : Int32)) len then (
jb2 (X7_would 164 (xs ((v1 + (1 : Int32))).toNatClampNeg) (xs ((v1 + (2 : Int32))).toNatClampNeg) I296) (fun (y300 : Int32) (I301 : jI) =>
if y295 = y300 then (
k9 I301 L3)
else (
none))) else none) else none)) else none) else none)
else if ((xs (v1).toNatClampNeg) &&& (63 : Int32)) = (26 : Int32) then (
if jin (v1 + (1 : Int32)) len then (
if jin (v1 + (2 : Int32)) len then (
if jin (v1 + (3 : Int32)) len then (
jb2 (X6_plan 1 (xs ((v1 + (1 : Int32))).toNatClampNeg) (xs ((v1 + (2 : Int32))).toNatClampNeg) (xs ((v1 + (3 : Int32))).toNatClampNeg) I2 L3) (fun (y308 : Int32) (I309 : jI) =>
if jin (v1 + (1 : Int32)) len then (
if jin (v1 + (2 : Int32)) len then (
if jin (v1 + (3 : Int32)) len then (
jb2 (X7_plan 164 (xs ((v1 + (1 : Int32))).toNatClampNeg) (xs ((v1 + (2 : Int32))).toNatClampNeg) (xs ((v1 + (3 : Int32))).toNatClampNeg) I309 L3) (fun (y314 : Int32) (I315 : jI) =>
if y308 = y314 then (
k9 I315 L3)
else (
none))) else none) else none) else none)) else none) else none) else none)
else if ((xs (v1).toNatClampNeg) &&& (63 : Int32)) = (27 : Int32) then (
if jin (v1 + (1 : Int32)) len then (
if jin (v1 + (2 : Int32)) len then (
if jin (v1 + (3 : Int32)) len then (
jb2 (X6_rule 1 (xs ((v1 + (1 : Int32))).toNatClampNeg) (xs ((v1 + (2 : Int32))).toNatClampNeg) (xs ((v1 + (3 : Int32))).toNatClampNeg) I2 L3) (fun (y322 : Int32) (I323 : jI) =>
if jin (v1 + (1 : Int32)) len then (
if jin (v1 + (2 : Int32)) len then (
if jin (v1 + (3 : Int32)) len then (
jb2 (X7_rule 164 (xs ((v1 + (1 : Int32))).toNatClampNeg) (xs ((v1 + (2 : Int32))).toNatClampNeg) (xs ((v1 + (3 : Int32))).toNatClampNeg) I323 L3) (fun (y328 : Int32) (I329 : jI) =>
if y322 = y328 then (
k9 I329 L3)
else (
none))) else none) else none) else none)) else none) else none) else none)
else if ((xs (v1).toNatClampNeg) &&& (63 : Int32)) = (28 : Int32) then (
if jin (v1 + (1 : Int32)) len then (
if jin (v1 + (2 : Int32)) len then (
if jin (v1 + (3 : Int32)) len then (
if jin (v1 + (4 : Int32)) len then (
jb2 (X6_size 1 (xs ((v1 + (1 : Int32))).toNatClampNeg) (xs ((v1 + (2 : Int32))).toNatClampNeg) (xs ((v1 + (3 : Int32))).toNatClampNeg) (xs ((v1 + (4 : Int32))).toNatClampNeg) I2 L3) (fun (y337 : Int32) (I338 : jI) =>
if jin (v1 + (1 : Int32)) len then (
if jin (v1 + (2 : Int32)) len then (
if jin (v1 + (3 : Int32)) len then (
if jin (v1 + (4 : Int32)) len then (
jb2 (X7_size 164 (xs ((v1 + (1 : Int32))).toNatClampNeg) (xs ((v1 + (2 : Int32))).toNatClampNeg) (xs ((v1 + (3 : Int32))).toNatClampNeg) (xs ((v1 + (4 : Int32))).toNatClampNeg) I338 L3) (fun (y344 : Int32) (I345 : jI) =>
if y337 = y344 then (
k9 I345 L3)
else (
none))) else none) else none) else none) else none)) else none) else none) else none) else none)
else if ((xs (v1).toNatClampNeg) &&& (63 : Int32)) = (29 : Int32) then (
if jin (v1 + (1 : Int32)) len then (
if jin (v1 + (2 : Int32)) len then (
jb2 (X6_modes 1 (xs ((v1 + (1 : Int32))).toNatClampNeg) (xs ((v1 + (2 : Int32))).toNatClampNeg) I2 L3) (fun (y351 : Int32) (I352 : jI) =>
if jin (v1 + (1 : Int32)) len then (
if jin (v1 + (2 : Int32)) len then (
jb2 (X7_modes 164 (xs ((v1 + (1 : Int32))).toNatClampNeg) (xs ((v1 + (2 : Int32))).toNatClampNeg) I352 L3) (fun (y356 : Int32) (I357 : jI) =>
if y351 = y356 then (
k9 I357 L3)
else (
none))) else none) else none)) else none) else none)
else if ((xs (v1).toNatClampNeg) &&& (63 : Int32)) = (30 : Int32) then (
if jin (v1 + (1 : Int32)) len then (
if jin (v1 + (2 : Int32)) len then (
if jin (v1 + (3 : Int32)) len then (
jb2 (X6_foresight 1 (xs ((v1 + (1 : Int32))).toNatClampNeg) (xs ((v1 + (2 : Int32))).toNatClampNeg) (xs ((v1 + (3 : Int32))).toNatClampNeg) I2 L3) (fun (y364 : Int32) (I365 : jI) =>
if jin (v1 + (1 : Int32)) len then (
if jin (v1 + (2 : Int32)) len then (
if jin (v1 + (3 : Int32)) len then (
jb2 (X7_foresight 164 (xs ((v1 + (1 : Int32))).toNatClampNeg) (xs ((v1 + (2 : Int32))).toNatClampNeg) (xs ((v1 + (3 : Int32))).toNatClampNeg) I365 L3) (fun (y370 : Int32) (I371 : jI) =>
if y364 = y370 then (
k9 I371 L3)
else (
none))) else none) else none) else none)) else none) else none) else none)
else if ((xs (v1).toNatClampNeg) &&& (63 : Int32)) = (31 : Int32) then (
if jin (v1 + (1 : Int32)) len then (
if jin (v1 + (2 : Int32)) len then (
if jin (v1 + (3 : Int32)) len then (
jb2 (X6_reuse 1 (xs ((v1 + (1 : Int32))).toNatClampNeg) (xs ((v1 + (2 : Int32))).toNatClampNeg) (xs ((v1 + (3 : Int32))).toNatClampNeg) I2 L3) (fun (y378 : Int32) (I379 : jI) =>
if jin (v1 + (1 : Int32)) len then (
if jin (v1 + (2 : Int32)) len then (
if jin (v1 + (3 : Int32)) len then (
jb2 (X7_reuse 164 (xs ((v1 + (1 : Int32))).toNatClampNeg) (xs ((v1 + (2 : Int32))).toNatClampNeg) (xs ((v1 + (3 : Int32))).toNatClampNeg) I379 L3) (fun (y384 : Int32) (I385 : jI) =>
if y378 = y384 then (
k9 I385 L3)
else (
none))) else none) else none) else none)) else none) else none) else none)
else if ((xs (v1).toNatClampNeg) &&& (63 : Int32)) = (32 : Int32) then (
if jin (v1 + (1 : Int32)) len then (
if jin (v1 + (2 : Int32)) len then (
if jin (v1 + (3 : Int32)) len then (
jb2 (X6_rowOf 1 (xs ((v1 + (1 : Int32))).toNatClampNeg) (xs ((v1 + (2 : Int32))).toNatClampNeg) (xs ((v1 + (3 : Int32))).toNatClampNeg) I2 L3) (fun (y392 : Int32) (I393 : jI) =>
if jin (v1 + (1 : Int32)) len then (
if jin (v1 + (2 : Int32)) len then (
if jin (v1 + (3 : Int32)) len then (
jb2 (X7_rowOf 164 (xs ((v1 + (1 : Int32))).toNatClampNeg) (xs ((v1 + (2 : Int32))).toNatClampNeg) (xs ((v1 + (3 : Int32))).toNatClampNeg) I393 L3) (fun (y398 : Int32) (I399 : jI) =>
if y392 = y398 then (
k9 I399 L3)
else (
none))) else none) else none) else none)) else none) else none) else none)
else if ((xs (v1).toNatClampNeg) &&& (63 : Int32)) = (33 : Int32) then (
if jin (v1 + (1 : Int32)) len then (
if jin (v1 + (2 : Int32)) len then (
jb2 (X6_judge 1 (xs ((v1 + (1 : Int32))).toNatClampNeg) (xs ((v1 + (2 : Int32))).toNatClampNeg) I2 L3) (fun (y405 : Int32) (I406 : jI) =>
if jin (v1 + (1 : Int32)) len then (
if jin (v1 + (2 : Int32)) len then (
jb2 (X7_judge 164 (xs ((v1 + (1 : Int32))).toNatClampNeg) (xs ((v1 + (2 : Int32))).toNatClampNeg) I406 L3) (fun (y410 : Int32) (I411 : jI) =>
if y405 = y410 then (
k9 I411 L3)
else (
none))) else none) else none)) else none) else none)
else if ((xs (v1).toNatClampNeg) &&& (63 : Int32)) = (34 : Int32) then (
if jin (v1 + (1 : Int32)) len then (
if jin (v1 + (2 : Int32)) len then (
jb2 (X6_past 1 (xs ((v1 + (1 : Int32))).toNatClampNeg) (xs ((v1 + (2 : Int32))).toNatClampNeg) I2) (fun (y417 : Int32) (I418 : jI) =>
if jin (v1 + (1 : Int32)) len then (
if jin (v1 + (2 : Int32)) len then (
jb2 (X7_past 164 (xs ((v1 + (1 : Int32))).toNatClampNeg) (xs ((v1 + (2 : Int32))).toNatClampNeg) I418) (fun (y422 : Int32) (I423 : jI) =>
if y417 = y422 then (
k9 I423 L3)
else (
none))) else none) else none)) else none) else none)
else if ((xs (v1).toNatClampNeg) &&& (63 : Int32)) = (35 : Int32) then (
if jin (v1 + (1 : Int32)) len then (
jb2 (X6_often 1 (xs ((v1 + (1 : Int32))).toNatClampNeg) I2) (fun (y428 : Int32) (I429 : jI) =>
if jin (v1 + (1 : Int32)) len then (
jb2 (X7_often 164 (xs ((v1 + (1 : Int32))).toNatClampNeg) I429) (fun (y432 : Int32) (I433 : jI) =>
if y428 = y432 then (
k9 I433 L3)
else (
none))) else none)) else none)
else if ((xs (v1).toNatClampNeg) &&& (63 : Int32)) = (36 : Int32) then (
if jin (v1 + (1 : Int32)) len then (
jb2 (X6_days 1 (xs ((v1 + (1 : Int32))).toNatClampNeg) I2) (fun (y438 : Int32) (I439 : jI) =>
if jin (v1 + (1 : Int32)) len then (
jb2 (X7_days 164 (xs ((v1 + (1 : Int32))).toNatClampNeg) I439) (fun (y442 : Int32) (I443 : jI) =>
if y438 = y442 then (
k9 I443 L3)
else (
none))) else none)) else none)
else if ((xs (v1).toNatClampNeg) &&& (63 : Int32)) = (37 : Int32) then (
if jin (v1 + (1 : Int32)) len then (
jb2 (X6_seed 1 (xs ((v1 + (1 : Int32))).toNatClampNeg) I2) (fun (y448 : Int32) (I449 : jI) =>
if jin (v1 + (1 : Int32)) len then (
jb2 (X7_seed 164 (xs ((v1 + (1 : Int32))).toNatClampNeg) I449) (fun (y452 : Int32) (I453 : jI) =>
if y448 = y452 then (
k9 I453 L3)
else (
none))) else none)) else none)
else if ((xs (v1).toNatClampNeg) &&& (63 : Int32)) = (38 : Int32) then (
jb2 (X6_image 1 I2) (fun (y457 : Int32) (I458 : jI) =>
jb2 (X7_image 164 I458) (fun (y460 : Int32) (I461 : jI) =>
if y457 = y460 then (
k9 I461 L3)
else (
none))))
else if ((xs (v1).toNatClampNeg) &&& (63 : Int32)) = (39 : Int32) then (
jb2 (X6_back 1 I2) (fun (y465 : Int32) (I466 : jI) =>
jb2 (X7_back 164 I466) (fun (y468 : Int32) (I469 : jI) =>
if y465 = y468 then (
k9 I469 L3)
else (
none))))
else if ((xs (v1).toNatClampNeg) &&& (63 : Int32)) = (40 : Int32) then (
if jin (v1 + (1 : Int32)) len then (
(X6_status 1 (xs ((v1 + (1 : Int32))).toNatClampNeg) I2).bind (fun (y474 : Int32) =>
if jin (v1 + (1 : Int32)) len then (
(X7_status 164 (xs ((v1 + (1 : Int32))).toNatClampNeg) I2).bind (fun (y477 : Int32) =>
if y474 = y477 then (
k9 I2 L3)
else (
none))) else none)) else none)
else (
k9 I2 L3))) else none)
def L_law0 (len : Nat) (xs : Nat → Int32) (I0 : jI) (L0 : jL) : Option Unit :=
jfx (L_law_F1 len xs) (fun _ _ _ => none) 1000 (0 : Int32) I0 L0
set_option maxRecDepth 40000 in
set_option maxHeartbeats 16000000 in
theorem W_law {Y : jY} {Z : jZ} {Qf : Unit → State → Prop} {nm : String} (hz0 : Y.zf = false) {len b : Nat} {xs : Nat → Int32} (hS : va_X b len xs Z.s Z.s.heap) (hb : b < Z.s.heap.size) (hbA : b < Y.b + 1) (I0 : jI) (L0 : jL) (hX : jOK Y Z RL cL_law 4 nm (some .boolean) 51 2322 600000 7302250) (hret : ∀ (pc : Nat) (lo : List (Nat × jV)) (I : jI) (L : jL), decode cL_law pc = .ok (.ireturn, 1) → J Y Z 4 Qf (some ()) pc lo [ji (1 : Int32)] 175 6895 NC shC rfC I L) : J Y Z 4 Qf (L_law0 len xs I0 L0) 18 [(3, ji (0 : Int32)), (2, jr 164), (1, jr 1), (0, je b)] [] 175 6895 NC shC rfC I0 L0 := by
  unfold L_law0
  have lhg4 : ∀ mq : Nat, ∀ (v1 : Int32) (I2 : jI) (L3 : jL), J Y Z 4 Qf (jfx (L_law_F1 len xs) (fun _ _ _ => none) mq v1 I2 L3) 18 [(0, je b), (1, jr 1), (2, jr 164), (3, ji v1)] [] 175 6895 NC shC rfC I2 L3 := by
    intro mq
    refine jfx_J (fun (_ : Nat) (g4 : Int32 → jI → jL → Option (Unit)) => ∀ (v1 : Int32) (I2 : jI) (L3 : jL), J Y Z 4 Qf (g4 v1 I2 L3) 18 [(0, je b), (1, jr 1), (2, jr 164), (3, ji v1)] [] 175 6895 NC shC rfC I2 L3) ?_ (fun _ g4 hg4 => ?_) mq
    · intro v1 I2 L3
      exact J_none
    intro v1 I2 L3
    unfold L_law_F1
    try dsimp only
    refine J_iload_n (pc := 18) hX 3 rfl dL_law_18 ?_
    refine J_aload_nE (pc := 19) hX 0 rfl dL_law_19 ?_
    refine J_slen (pc := 20) hX hS hb hbA dL_law_20 ?_
    refine J_bipush (pc := 21) hX (v := (6 : Int32)) (by decide) dL_law_21 ?_
    refine J_isub (pc := 23) hX dL_law_23 ?_
    refine J_icmp_gt (pc := 24) hX (tgt := 1494) (by decide) dL_law_24 (fun h5 => ?_) (fun h5 => ?_)
    · refine J_iconst (pc := 1494) hX (v := (1 : Int32)) (by decide) dL_law_1494 ?_
      exact hret _ _ _ _ dL_law_1495
    · refine J_aload_nE (pc := 27) hX 0 rfl dL_law_27 ?_
      refine J_iload_n (pc := 28) hX 3 rfl dL_law_28 ?_
      refine J_sld (pc := 29) hX hS hb hbA dL_law_29 (fun h6 => ?_)
      refine J_bipush (pc := 30) hX (v := (63 : Int32)) (by decide) dL_law_30 ?_
      refine J_iand (pc := 32) hX dL_law_32 ?_
      refine J_join (fun (k9 : jI → jL → Option (Unit)) => ∀ (I7 : jI) (L8 : jL), J Y Z 4 Qf (k9 I7 L8) 1488 [(0, je b), (1, jr 1), (2, jr 164), (3, ji v1)] [] 175 6895 NC shC rfC I7 L8) ?_ (fun k9 hk9 => ?_)
      · intro I7 L8
        try dsimp only
        refine J_iinc (pc := 1488) hX (v := (v1 + (6 : Int32))) (lo' := [(3, ji (v1 + (6 : Int32))), (0, je b), (1, jr 1), (2, jr 164)]) 3 rfl (by rfl) (by decide) rfl dL_law_1488 ?_
        refine J_goto (pc := 1491) hX (tgt := 18) (by decide) dL_law_1491 ?_
        refine J_sub [1, 2, 3, 0] rfl ?_
        exact hg4 (v1 + (6 : Int32)) I7 L8
      refine J_swc (0 : Int32) (fun h10 => ?_) (fun h10 => ?_)
      · refine J_swIn (pc := 33) hX (tgt := 212) (off := 179) (0 : Int32) h10 (by decide) (by decide) rfl (by decide) dL_law_33 ?_
        refine J_aload_n (pc := 212) hX 1 rfl dL_law_212 ?_
        refine J_aload_nE (pc := 213) hX 0 rfl dL_law_213 ?_
        refine J_iload_n (pc := 214) hX 3 rfl dL_law_214 ?_
        refine J_iconst (pc := 215) hX (v := (1 : Int32)) (by decide) dL_law_215 ?_
        refine J_iadd (pc := 216) hX dL_law_216 ?_
        refine J_sld (pc := 217) hX hS hb hbA dL_law_217 (fun h11 => ?_)
        refine J_aload_nE (pc := 218) hX 0 rfl dL_law_218 ?_
        refine J_iload_n (pc := 219) hX 3 rfl dL_law_219 ?_
        refine J_iconst (pc := 220) hX (v := (2 : Int32)) (by decide) dL_law_220 ?_
        refine J_iadd (pc := 221) hX dL_law_221 ?_
        refine J_sld (pc := 222) hX hS hb hbA dL_law_222 (fun h12 => ?_)
        refine J_aload_nE (pc := 223) hX 0 rfl dL_law_223 ?_
        refine J_iload_n (pc := 224) hX 3 rfl dL_law_224 ?_
        refine J_iconst (pc := 225) hX (v := (3 : Int32)) (by decide) dL_law_225 ?_
        refine J_iadd (pc := 226) hX dL_law_226 ?_
        refine J_sld (pc := 227) hX hS hb hbA dL_law_227 (fun h13 => ?_)
        refine J_call3 (fun y14 I15 L16 e17 => ?_)
        refine jrun_i (pc := 228) (jRunV hX s_L_13 (ci := 6) (T := TX6) (N := 8) (As := [ji (xs ((v1 + (1 : Int32))).toNatClampNeg), ji (xs ((v1 + (2 : Int32))).toNatClampNeg), ji (xs ((v1 + (3 : Int32))).toNatClampNeg)]) (rest := []) rfl (by decide) (C_X6_row Y hz0 1 sh_root (xs ((v1 + (1 : Int32))).toNatClampNeg) (xs ((v1 + (2 : Int32))).toNatClampNeg) (xs ((v1 + (3 : Int32))).toNatClampNeg) I2 L3 y14 I15 L16 e17) sh_root rfl rfl ⟨by decide, by decide⟩ ⟨Nat.le_of_ble_eq_true rfl, Nat.le_of_ble_eq_true rfl⟩ (Nat.le_of_ble_eq_true rfl) dL_law_228) ?_
        refine J_aload_n (pc := 231) hX 2 rfl dL_law_231 ?_
        refine J_aload_nE (pc := 232) hX 0 rfl dL_law_232 ?_
        refine J_iload_n (pc := 233) hX 3 rfl dL_law_233 ?_
        refine J_iconst (pc := 234) hX (v := (1 : Int32)) (by decide) dL_law_234 ?_
        refine J_iadd (pc := 235) hX dL_law_235 ?_
        refine J_sld (pc := 236) hX hS hb hbA dL_law_236 (fun h18 => ?_)
        refine J_aload_nE (pc := 237) hX 0 rfl dL_law_237 ?_
        refine J_iload_n (pc := 238) hX 3 rfl dL_law_238 ?_
        refine J_iconst (pc := 239) hX (v := (2 : Int32)) (by decide) dL_law_239 ?_
        refine J_iadd (pc := 240) hX dL_law_240 ?_
        refine J_sld (pc := 241) hX hS hb hbA dL_law_241 (fun h19 => ?_)
        refine J_aload_nE (pc := 242) hX 0 rfl dL_law_242 ?_
        refine J_iload_n (pc := 243) hX 3 rfl dL_law_243 ?_
        refine J_iconst (pc := 244) hX (v := (3 : Int32)) (by decide) dL_law_244 ?_
        refine J_iadd (pc := 245) hX dL_law_245 ?_
        refine J_sld (pc := 246) hX hS hb hbA dL_law_246 (fun h20 => ?_)
        refine J_call3 (fun y21 I22 L23 e24 => ?_)
        refine jrun_i (pc := 247) (jRunV hX s_L_17 (ci := 7) (T := TX7) (N := 20) (As := [ji (xs ((v1 + (1 : Int32))).toNatClampNeg), ji (xs ((v1 + (2 : Int32))).toNatClampNeg), ji (xs ((v1 + (3 : Int32))).toNatClampNeg)]) (rest := [ji y14]) rfl (by decide) (C_X7_row Y hz0 164 sh_mod (xs ((v1 + (1 : Int32))).toNatClampNeg) (xs ((v1 + (2 : Int32))).toNatClampNeg) (xs ((v1 + (3 : Int32))).toNatClampNeg) I15 L16 y21 I22 L23 e24) sh_mod rfl rfl ⟨by decide, by decide⟩ ⟨Nat.le_of_ble_eq_true rfl, Nat.le_of_ble_eq_true rfl⟩ (Nat.le_of_ble_eq_true rfl) dL_law_247) ?_
        refine J_icmp_eq (pc := 250) hX (tgt := 1488) (by decide) dL_law_250 (fun h25 => ?_) (fun h25 => ?_)
        · exact hk9 I22 L23
        · refine J_iconst (pc := 253) hX (v := (0 : Int32)) (by decide) dL_law_253 ?_
          exact J_none
      refine J_swc (1 : Int32) (fun h26 => ?_) (fun h26 => ?_)
      · refine J_swIn (pc := 33) hX (tgt := 255) (off := 222) (1 : Int32) h26 (by decide) (by decide) rfl (by decide) dL_law_33 ?_
        refine J_aload_n (pc := 255) hX 1 rfl dL_law_255 ?_
        refine J_aload_nE (pc := 256) hX 0 rfl dL_law_256 ?_
        refine J_iload_n (pc := 257) hX 3 rfl dL_law_257 ?_
        refine J_iconst (pc := 258) hX (v := (1 : Int32)) (by decide) dL_law_258 ?_
        refine J_iadd (pc := 259) hX dL_law_259 ?_
        refine J_sld (pc := 260) hX hS hb hbA dL_law_260 (fun h27 => ?_)
        refine J_aload_nE (pc := 261) hX 0 rfl dL_law_261 ?_
        refine J_iload_n (pc := 262) hX 3 rfl dL_law_262 ?_
        refine J_iconst (pc := 263) hX (v := (2 : Int32)) (by decide) dL_law_263 ?_
        refine J_iadd (pc := 264) hX dL_law_264 ?_
        refine J_sld (pc := 265) hX hS hb hbA dL_law_265 (fun h28 => ?_)
        refine J_aload_nE (pc := 266) hX 0 rfl dL_law_266 ?_
        refine J_iload_n (pc := 267) hX 3 rfl dL_law_267 ?_
        refine J_iconst (pc := 268) hX (v := (3 : Int32)) (by decide) dL_law_268 ?_
        refine J_iadd (pc := 269) hX dL_law_269 ?_
        refine J_sld (pc := 270) hX hS hb hbA dL_law_270 (fun h29 => ?_)
        refine J_i2l (pc := 271) hX dL_law_271 ?_
        refine J_bipush (pc := 272) hX (v := (32 : Int32)) (by decide) dL_law_272 ?_
        refine J_lshl (pc := 274) hX dL_law_274 ?_
        refine J_aload_nE (pc := 275) hX 0 rfl dL_law_275 ?_
        refine J_iload_n (pc := 276) hX 3 rfl dL_law_276 ?_
        refine J_iconst (pc := 277) hX (v := (4 : Int32)) (by decide) dL_law_277 ?_
        refine J_iadd (pc := 278) hX dL_law_278 ?_
        refine J_sld (pc := 279) hX hS hb hbA dL_law_279 (fun h30 => ?_)
        refine J_i2l (pc := 280) hX dL_law_280 ?_
        refine J_ldc2 (pc := 281) hX q_L_18 dL_law_281 ?_
        refine J_land (pc := 284) hX dL_law_284 ?_
        refine J_lor (pc := 285) hX dL_law_285 ?_
        refine J_call3 (fun y31 I32 L33 e34 => ?_)
        refine jrun_i (pc := 286) (jRunV hX s_L_20 (ci := 6) (T := TX6) (N := 8) (As := [ji (xs ((v1 + (1 : Int32))).toNatClampNeg), ji (xs ((v1 + (2 : Int32))).toNatClampNeg), jl ((jlshl (((xs ((v1 + (3 : Int32))).toNatClampNeg)).toInt64) (32 : Int32)) ||| (((xs ((v1 + (4 : Int32))).toNatClampNeg)).toInt64 &&& (4294967295 : Int64)))]) (rest := []) rfl (by decide) (C_X6_set Y hz0 1 sh_root (xs ((v1 + (1 : Int32))).toNatClampNeg) (xs ((v1 + (2 : Int32))).toNatClampNeg) ((jlshl (((xs ((v1 + (3 : Int32))).toNatClampNeg)).toInt64) (32 : Int32)) ||| (((xs ((v1 + (4 : Int32))).toNatClampNeg)).toInt64 &&& (4294967295 : Int64))) I2 L3 y31 I32 L33 e34) sh_root rfl rfl ⟨by decide, by decide⟩ ⟨Nat.le_of_ble_eq_true rfl, Nat.le_of_ble_eq_true rfl⟩ (Nat.le_of_ble_eq_true rfl) dL_law_286) ?_
        refine J_aload_n (pc := 289) hX 2 rfl dL_law_289 ?_
        refine J_aload_nE (pc := 290) hX 0 rfl dL_law_290 ?_
        refine J_iload_n (pc := 291) hX 3 rfl dL_law_291 ?_
        refine J_iconst (pc := 292) hX (v := (1 : Int32)) (by decide) dL_law_292 ?_
        refine J_iadd (pc := 293) hX dL_law_293 ?_
        refine J_sld (pc := 294) hX hS hb hbA dL_law_294 (fun h35 => ?_)
        refine J_aload_nE (pc := 295) hX 0 rfl dL_law_295 ?_
        refine J_iload_n (pc := 296) hX 3 rfl dL_law_296 ?_
        refine J_iconst (pc := 297) hX (v := (2 : Int32)) (by decide) dL_law_297 ?_
        refine J_iadd (pc := 298) hX dL_law_298 ?_
        refine J_sld (pc := 299) hX hS hb hbA dL_law_299 (fun h36 => ?_)
        refine J_aload_nE (pc := 300) hX 0 rfl dL_law_300 ?_
        refine J_iload_n (pc := 301) hX 3 rfl dL_law_301 ?_
        refine J_iconst (pc := 302) hX (v := (3 : Int32)) (by decide) dL_law_302 ?_
        refine J_iadd (pc := 303) hX dL_law_303 ?_
        refine J_sld (pc := 304) hX hS hb hbA dL_law_304 (fun h37 => ?_)
        refine J_i2l (pc := 305) hX dL_law_305 ?_
        refine J_bipush (pc := 306) hX (v := (32 : Int32)) (by decide) dL_law_306 ?_
        refine J_lshl (pc := 308) hX dL_law_308 ?_
        refine J_aload_nE (pc := 309) hX 0 rfl dL_law_309 ?_
        refine J_iload_n (pc := 310) hX 3 rfl dL_law_310 ?_
        refine J_iconst (pc := 311) hX (v := (4 : Int32)) (by decide) dL_law_311 ?_
        refine J_iadd (pc := 312) hX dL_law_312 ?_
        refine J_sld (pc := 313) hX hS hb hbA dL_law_313 (fun h38 => ?_)
        refine J_i2l (pc := 314) hX dL_law_314 ?_
        refine J_ldc2 (pc := 315) hX q_L_18 dL_law_315 ?_
        refine J_land (pc := 318) hX dL_law_318 ?_
        refine J_lor (pc := 319) hX dL_law_319 ?_
        refine J_call3 (fun y39 I40 L41 e42 => ?_)
        refine jrun_i (pc := 320) (jRunV hX s_L_24 (ci := 7) (T := TX7) (N := 20) (As := [ji (xs ((v1 + (1 : Int32))).toNatClampNeg), ji (xs ((v1 + (2 : Int32))).toNatClampNeg), jl ((jlshl (((xs ((v1 + (3 : Int32))).toNatClampNeg)).toInt64) (32 : Int32)) ||| (((xs ((v1 + (4 : Int32))).toNatClampNeg)).toInt64 &&& (4294967295 : Int64)))]) (rest := [ji y31]) rfl (by decide) (C_X7_set Y hz0 164 sh_mod (xs ((v1 + (1 : Int32))).toNatClampNeg) (xs ((v1 + (2 : Int32))).toNatClampNeg) ((jlshl (((xs ((v1 + (3 : Int32))).toNatClampNeg)).toInt64) (32 : Int32)) ||| (((xs ((v1 + (4 : Int32))).toNatClampNeg)).toInt64 &&& (4294967295 : Int64))) I32 L33 y39 I40 L41 e42) sh_mod rfl rfl ⟨by decide, by decide⟩ ⟨Nat.le_of_ble_eq_true rfl, Nat.le_of_ble_eq_true rfl⟩ (Nat.le_of_ble_eq_true rfl) dL_law_320) ?_
        refine J_icmp_eq (pc := 323) hX (tgt := 1488) (by decide) dL_law_323 (fun h43 => ?_) (fun h43 => ?_)
        · exact hk9 I40 L41
        · refine J_iconst (pc := 326) hX (v := (0 : Int32)) (by decide) dL_law_326 ?_
          exact J_none
      refine J_swc (2 : Int32) (fun h44 => ?_) (fun h44 => ?_)
      · refine J_swIn (pc := 33) hX (tgt := 328) (off := 295) (2 : Int32) h44 (by decide) (by decide) rfl (by decide) dL_law_33 ?_
        refine J_aload_n (pc := 328) hX 1 rfl dL_law_328 ?_
        refine J_aload_nE (pc := 329) hX 0 rfl dL_law_329 ?_
        refine J_iload_n (pc := 330) hX 3 rfl dL_law_330 ?_
        refine J_iconst (pc := 331) hX (v := (1 : Int32)) (by decide) dL_law_331 ?_
        refine J_iadd (pc := 332) hX dL_law_332 ?_
        refine J_sld (pc := 333) hX hS hb hbA dL_law_333 (fun h45 => ?_)
        refine J_aload_nE (pc := 334) hX 0 rfl dL_law_334 ?_
        refine J_iload_n (pc := 335) hX 3 rfl dL_law_335 ?_
        refine J_iconst (pc := 336) hX (v := (2 : Int32)) (by decide) dL_law_336 ?_
        refine J_iadd (pc := 337) hX dL_law_337 ?_
        refine J_sld (pc := 338) hX hS hb hbA dL_law_338 (fun h46 => ?_)
        refine J_aload_nE (pc := 339) hX 0 rfl dL_law_339 ?_
        refine J_iload_n (pc := 340) hX 3 rfl dL_law_340 ?_
        refine J_iconst (pc := 341) hX (v := (3 : Int32)) (by decide) dL_law_341 ?_
        refine J_iadd (pc := 342) hX dL_law_342 ?_
        refine J_sld (pc := 343) hX hS hb hbA dL_law_343 (fun h47 => ?_)
        refine J_aload_nE (pc := 344) hX 0 rfl dL_law_344 ?_
        refine J_iload_n (pc := 345) hX 3 rfl dL_law_345 ?_
        refine J_iconst (pc := 346) hX (v := (4 : Int32)) (by decide) dL_law_346 ?_
        refine J_iadd (pc := 347) hX dL_law_347 ?_
        refine J_sld (pc := 348) hX hS hb hbA dL_law_348 (fun h48 => ?_)
        refine J_aload_nE (pc := 349) hX 0 rfl dL_law_349 ?_
        refine J_iload_n (pc := 350) hX 3 rfl dL_law_350 ?_
        refine J_iconst (pc := 351) hX (v := (5 : Int32)) (by decide) dL_law_351 ?_
        refine J_iadd (pc := 352) hX dL_law_352 ?_
        refine J_sld (pc := 353) hX hS hb hbA dL_law_353 (fun h49 => ?_)
        refine J_call3 (fun y50 I51 L52 e53 => ?_)
        refine jrun_i (pc := 354) (jRunV hX s_L_25 (ci := 6) (T := TX6) (N := 8) (As := [ji (xs ((v1 + (1 : Int32))).toNatClampNeg), ji (xs ((v1 + (2 : Int32))).toNatClampNeg), ji (xs ((v1 + (3 : Int32))).toNatClampNeg), ji (xs ((v1 + (4 : Int32))).toNatClampNeg), ji (xs ((v1 + (5 : Int32))).toNatClampNeg)]) (rest := []) rfl (by decide) (C_X6_copy Y hz0 1 sh_root (xs ((v1 + (1 : Int32))).toNatClampNeg) (xs ((v1 + (2 : Int32))).toNatClampNeg) (xs ((v1 + (3 : Int32))).toNatClampNeg) (xs ((v1 + (4 : Int32))).toNatClampNeg) (xs ((v1 + (5 : Int32))).toNatClampNeg) I2 L3 y50 I51 L52 e53) sh_root rfl rfl ⟨by decide, by decide⟩ ⟨Nat.le_of_ble_eq_true rfl, Nat.le_of_ble_eq_true rfl⟩ (Nat.le_of_ble_eq_true rfl) dL_law_354) ?_
        refine J_aload_n (pc := 357) hX 2 rfl dL_law_357 ?_
        refine J_aload_nE (pc := 358) hX 0 rfl dL_law_358 ?_
        refine J_iload_n (pc := 359) hX 3 rfl dL_law_359 ?_
        refine J_iconst (pc := 360) hX (v := (1 : Int32)) (by decide) dL_law_360 ?_
        refine J_iadd (pc := 361) hX dL_law_361 ?_
        refine J_sld (pc := 362) hX hS hb hbA dL_law_362 (fun h54 => ?_)
        refine J_aload_nE (pc := 363) hX 0 rfl dL_law_363 ?_
        refine J_iload_n (pc := 364) hX 3 rfl dL_law_364 ?_
        refine J_iconst (pc := 365) hX (v := (2 : Int32)) (by decide) dL_law_365 ?_
        refine J_iadd (pc := 366) hX dL_law_366 ?_
        refine J_sld (pc := 367) hX hS hb hbA dL_law_367 (fun h55 => ?_)
        refine J_aload_nE (pc := 368) hX 0 rfl dL_law_368 ?_
        refine J_iload_n (pc := 369) hX 3 rfl dL_law_369 ?_
        refine J_iconst (pc := 370) hX (v := (3 : Int32)) (by decide) dL_law_370 ?_
        refine J_iadd (pc := 371) hX dL_law_371 ?_
        refine J_sld (pc := 372) hX hS hb hbA dL_law_372 (fun h56 => ?_)
        refine J_aload_nE (pc := 373) hX 0 rfl dL_law_373 ?_
        refine J_iload_n (pc := 374) hX 3 rfl dL_law_374 ?_
        refine J_iconst (pc := 375) hX (v := (4 : Int32)) (by decide) dL_law_375 ?_
        refine J_iadd (pc := 376) hX dL_law_376 ?_
        refine J_sld (pc := 377) hX hS hb hbA dL_law_377 (fun h57 => ?_)
        refine J_aload_nE (pc := 378) hX 0 rfl dL_law_378 ?_
        refine J_iload_n (pc := 379) hX 3 rfl dL_law_379 ?_
        refine J_iconst (pc := 380) hX (v := (5 : Int32)) (by decide) dL_law_380 ?_
        refine J_iadd (pc := 381) hX dL_law_381 ?_
        refine J_sld (pc := 382) hX hS hb hbA dL_law_382 (fun h58 => ?_)
        refine J_call3 (fun y59 I60 L61 e62 => ?_)
        refine jrun_i (pc := 383) (jRunV hX s_L_29 (ci := 7) (T := TX7) (N := 20) (As := [ji (xs ((v1 + (1 : Int32))).toNatClampNeg), ji (xs ((v1 + (2 : Int32))).toNatClampNeg), ji (xs ((v1 + (3 : Int32))).toNatClampNeg), ji (xs ((v1 + (4 : Int32))).toNatClampNeg), ji (xs ((v1 + (5 : Int32))).toNatClampNeg)]) (rest := [ji y50]) rfl (by decide) (C_X7_copy Y hz0 164 sh_mod (xs ((v1 + (1 : Int32))).toNatClampNeg) (xs ((v1 + (2 : Int32))).toNatClampNeg) (xs ((v1 + (3 : Int32))).toNatClampNeg) (xs ((v1 + (4 : Int32))).toNatClampNeg) (xs ((v1 + (5 : Int32))).toNatClampNeg) I51 L52 y59 I60 L61 e62) sh_mod rfl rfl ⟨by decide, by decide⟩ ⟨Nat.le_of_ble_eq_true rfl, Nat.le_of_ble_eq_true rfl⟩ (Nat.le_of_ble_eq_true rfl) dL_law_383) ?_
        refine J_icmp_eq (pc := 386) hX (tgt := 1488) (by decide) dL_law_386 (fun h63 => ?_) (fun h63 => ?_)
        · exact hk9 I60 L61
        · refine J_iconst (pc := 389) hX (v := (0 : Int32)) (by decide) dL_law_389 ?_
          exact J_none
      refine J_swc (3 : Int32) (fun h64 => ?_) (fun h64 => ?_)
      · refine J_swIn (pc := 33) hX (tgt := 391) (off := 358) (3 : Int32) h64 (by decide) (by decide) rfl (by decide) dL_law_33 ?_
        refine J_aload_n (pc := 391) hX 1 rfl dL_law_391 ?_
        refine J_aload_nE (pc := 392) hX 0 rfl dL_law_392 ?_
        refine J_iload_n (pc := 393) hX 3 rfl dL_law_393 ?_
        refine J_iconst (pc := 394) hX (v := (1 : Int32)) (by decide) dL_law_394 ?_
        refine J_iadd (pc := 395) hX dL_law_395 ?_
        refine J_sld (pc := 396) hX hS hb hbA dL_law_396 (fun h65 => ?_)
        refine J_aload_nE (pc := 397) hX 0 rfl dL_law_397 ?_
        refine J_iload_n (pc := 398) hX 3 rfl dL_law_398 ?_
        refine J_iconst (pc := 399) hX (v := (2 : Int32)) (by decide) dL_law_399 ?_
        refine J_iadd (pc := 400) hX dL_law_400 ?_
        refine J_sld (pc := 401) hX hS hb hbA dL_law_401 (fun h66 => ?_)
        refine J_call1 (fun y67 e68 => ?_)
        refine jrun_l (pc := 402) (jRunV hX s_L_30 (ci := 6) (T := TX6) (N := 8) (As := [ji (xs ((v1 + (1 : Int32))).toNatClampNeg), ji (xs ((v1 + (2 : Int32))).toNatClampNeg)]) (rest := []) rfl (by decide) (C_X6_element Y hz0 1 sh_root (xs ((v1 + (1 : Int32))).toNatClampNeg) (xs ((v1 + (2 : Int32))).toNatClampNeg) I2 L3 y67 e68) sh_root rfl rfl ⟨by decide, by decide⟩ ⟨Nat.le_of_ble_eq_true rfl, Nat.le_of_ble_eq_true rfl⟩ (Nat.le_of_ble_eq_true rfl) dL_law_402) ?_
        refine J_aload_n (pc := 405) hX 2 rfl dL_law_405 ?_
        refine J_aload_nE (pc := 406) hX 0 rfl dL_law_406 ?_
        refine J_iload_n (pc := 407) hX 3 rfl dL_law_407 ?_
        refine J_iconst (pc := 408) hX (v := (1 : Int32)) (by decide) dL_law_408 ?_
        refine J_iadd (pc := 409) hX dL_law_409 ?_
        refine J_sld (pc := 410) hX hS hb hbA dL_law_410 (fun h69 => ?_)
        refine J_aload_nE (pc := 411) hX 0 rfl dL_law_411 ?_
        refine J_iload_n (pc := 412) hX 3 rfl dL_law_412 ?_
        refine J_iconst (pc := 413) hX (v := (2 : Int32)) (by decide) dL_law_413 ?_
        refine J_iadd (pc := 414) hX dL_law_414 ?_
        refine J_sld (pc := 415) hX hS hb hbA dL_law_415 (fun h70 => ?_)
        refine J_call1 (fun y71 e72 => ?_)
        refine jrun_l (pc := 416) (jRunV hX s_L_34 (ci := 7) (T := TX7) (N := 20) (As := [ji (xs ((v1 + (1 : Int32))).toNatClampNeg), ji (xs ((v1 + (2 : Int32))).toNatClampNeg)]) (rest := [jl y67]) rfl (by decide) (C_X7_element Y hz0 164 sh_mod (xs ((v1 + (1 : Int32))).toNatClampNeg) (xs ((v1 + (2 : Int32))).toNatClampNeg) I2 L3 y71 e72) sh_mod rfl rfl ⟨by decide, by decide⟩ ⟨Nat.le_of_ble_eq_true rfl, Nat.le_of_ble_eq_true rfl⟩ (Nat.le_of_ble_eq_true rfl) dL_law_416) ?_
        refine J_lcmp (pc := 419) hX dL_law_419 ?_
        refine J_if_eq (pc := 420) hX (tgt := 1488) (by decide) dL_law_420 (fun h73 => ?_) (fun h73 => ?_)
        · exact hk9 I2 L3
        · refine J_iconst (pc := 423) hX (v := (0 : Int32)) (by decide) dL_law_423 ?_
          exact J_none
      refine J_swc (4 : Int32) (fun h74 => ?_) (fun h74 => ?_)
      · refine J_swIn (pc := 33) hX (tgt := 425) (off := 392) (4 : Int32) h74 (by decide) (by decide) rfl (by decide) dL_law_33 ?_
        refine J_aload_n (pc := 425) hX 1 rfl dL_law_425 ?_
        refine J_aload_nE (pc := 426) hX 0 rfl dL_law_426 ?_
        refine J_iload_n (pc := 427) hX 3 rfl dL_law_427 ?_
        refine J_iconst (pc := 428) hX (v := (1 : Int32)) (by decide) dL_law_428 ?_
        refine J_iadd (pc := 429) hX dL_law_429 ?_
        refine J_sld (pc := 430) hX hS hb hbA dL_law_430 (fun h75 => ?_)
        refine J_call1 (fun y76 e77 => ?_)
        refine jrun_i (pc := 431) (jRunV hX s_L_35 (ci := 6) (T := TX6) (N := 8) (As := [ji (xs ((v1 + (1 : Int32))).toNatClampNeg)]) (rest := []) rfl (by decide) (C_X6_holds Y hz0 1 sh_root (xs ((v1 + (1 : Int32))).toNatClampNeg) I2 L3 y76 e77) sh_root rfl rfl ⟨by decide, by decide⟩ ⟨Nat.le_of_ble_eq_true rfl, Nat.le_of_ble_eq_true rfl⟩ (Nat.le_of_ble_eq_true rfl) dL_law_431) ?_
        refine J_aload_n (pc := 434) hX 2 rfl dL_law_434 ?_
        refine J_aload_nE (pc := 435) hX 0 rfl dL_law_435 ?_
        refine J_iload_n (pc := 436) hX 3 rfl dL_law_436 ?_
        refine J_iconst (pc := 437) hX (v := (1 : Int32)) (by decide) dL_law_437 ?_
        refine J_iadd (pc := 438) hX dL_law_438 ?_
        refine J_sld (pc := 439) hX hS hb hbA dL_law_439 (fun h78 => ?_)
        refine J_call1 (fun y79 e80 => ?_)
        refine jrun_i (pc := 440) (jRunV hX s_L_39 (ci := 7) (T := TX7) (N := 20) (As := [ji (xs ((v1 + (1 : Int32))).toNatClampNeg)]) (rest := [ji y76]) rfl (by decide) (C_X7_holds Y hz0 164 sh_mod (xs ((v1 + (1 : Int32))).toNatClampNeg) I2 L3 y79 e80) sh_mod rfl rfl ⟨by decide, by decide⟩ ⟨Nat.le_of_ble_eq_true rfl, Nat.le_of_ble_eq_true rfl⟩ (Nat.le_of_ble_eq_true rfl) dL_law_440) ?_
        refine J_icmp_eq (pc := 443) hX (tgt := 1488) (by decide) dL_law_443 (fun h81 => ?_) (fun h81 => ?_)
        · exact hk9 I2 L3
        · refine J_iconst (pc := 446) hX (v := (0 : Int32)) (by decide) dL_law_446 ?_
          exact J_none
      refine J_swc (5 : Int32) (fun h82 => ?_) (fun h82 => ?_)
      · refine J_swIn (pc := 33) hX (tgt := 448) (off := 415) (5 : Int32) h82 (by decide) (by decide) rfl (by decide) dL_law_33 ?_
        refine J_aload_n (pc := 448) hX 1 rfl dL_law_448 ?_
        refine J_aload_nE (pc := 449) hX 0 rfl dL_law_449 ?_
        refine J_iload_n (pc := 450) hX 3 rfl dL_law_450 ?_
        refine J_iconst (pc := 451) hX (v := (1 : Int32)) (by decide) dL_law_451 ?_
        refine J_iadd (pc := 452) hX dL_law_452 ?_
        refine J_sld (pc := 453) hX hS hb hbA dL_law_453 (fun h83 => ?_)
        refine J_aload_nE (pc := 454) hX 0 rfl dL_law_454 ?_
        refine J_iload_n (pc := 455) hX 3 rfl dL_law_455 ?_
        refine J_iconst (pc := 456) hX (v := (2 : Int32)) (by decide) dL_law_456 ?_
        refine J_iadd (pc := 457) hX dL_law_457 ?_
        refine J_sld (pc := 458) hX hS hb hbA dL_law_458 (fun h84 => ?_)
        refine J_call2 (fun y85 I86 e87 => ?_)
        refine jrun_i (pc := 459) (jRunV hX s_L_40 (ci := 6) (T := TX6) (N := 8) (As := [ji (xs ((v1 + (1 : Int32))).toNatClampNeg), ji (xs ((v1 + (2 : Int32))).toNatClampNeg)]) (rest := []) rfl (by decide) (C_X6_show Y hz0 1 sh_root (xs ((v1 + (1 : Int32))).toNatClampNeg) (xs ((v1 + (2 : Int32))).toNatClampNeg) I2 L3 y85 I86 e87) sh_root rfl rfl ⟨by decide, by decide⟩ ⟨Nat.le_of_ble_eq_true rfl, Nat.le_of_ble_eq_true rfl⟩ (Nat.le_of_ble_eq_true rfl) dL_law_459) ?_
        refine J_aload_n (pc := 462) hX 2 rfl dL_law_462 ?_
        refine J_aload_nE (pc := 463) hX 0 rfl dL_law_463 ?_
        refine J_iload_n (pc := 464) hX 3 rfl dL_law_464 ?_
        refine J_iconst (pc := 465) hX (v := (1 : Int32)) (by decide) dL_law_465 ?_
        refine J_iadd (pc := 466) hX dL_law_466 ?_
        refine J_sld (pc := 467) hX hS hb hbA dL_law_467 (fun h88 => ?_)
        refine J_aload_nE (pc := 468) hX 0 rfl dL_law_468 ?_
        refine J_iload_n (pc := 469) hX 3 rfl dL_law_469 ?_
        refine J_iconst (pc := 470) hX (v := (2 : Int32)) (by decide) dL_law_470 ?_
        refine J_iadd (pc := 471) hX dL_law_471 ?_
        refine J_sld (pc := 472) hX hS hb hbA dL_law_472 (fun h89 => ?_)
        refine J_call2 (fun y90 I91 e92 => ?_)
        refine jrun_i (pc := 473) (jRunV hX s_L_44 (ci := 7) (T := TX7) (N := 20) (As := [ji (xs ((v1 + (1 : Int32))).toNatClampNeg), ji (xs ((v1 + (2 : Int32))).toNatClampNeg)]) (rest := [ji y85]) rfl (by decide) (C_X7_show Y hz0 164 sh_mod (xs ((v1 + (1 : Int32))).toNatClampNeg) (xs ((v1 + (2 : Int32))).toNatClampNeg) I86 L3 y90 I91 e92) sh_mod rfl rfl ⟨by decide, by decide⟩ ⟨Nat.le_of_ble_eq_true rfl, Nat.le_of_ble_eq_true rfl⟩ (Nat.le_of_ble_eq_true rfl) dL_law_473) ?_
        refine J_icmp_eq (pc := 476) hX (tgt := 1488) (by decide) dL_law_476 (fun h93 => ?_) (fun h93 => ?_)
        · exact hk9 I91 L3
        · refine J_iconst (pc := 479) hX (v := (0 : Int32)) (by decide) dL_law_479 ?_
          exact J_none
      refine J_swc (6 : Int32) (fun h94 => ?_) (fun h94 => ?_)
      · refine J_swIn (pc := 33) hX (tgt := 481) (off := 448) (6 : Int32) h94 (by decide) (by decide) rfl (by decide) dL_law_33 ?_
        refine J_aload_n (pc := 481) hX 1 rfl dL_law_481 ?_
        refine J_aload_nE (pc := 482) hX 0 rfl dL_law_482 ?_
        refine J_iload_n (pc := 483) hX 3 rfl dL_law_483 ?_
        refine J_iconst (pc := 484) hX (v := (1 : Int32)) (by decide) dL_law_484 ?_
        refine J_iadd (pc := 485) hX dL_law_485 ?_
        refine J_sld (pc := 486) hX hS hb hbA dL_law_486 (fun h95 => ?_)
        refine J_aload_nE (pc := 487) hX 0 rfl dL_law_487 ?_
        refine J_iload_n (pc := 488) hX 3 rfl dL_law_488 ?_
        refine J_iconst (pc := 489) hX (v := (2 : Int32)) (by decide) dL_law_489 ?_
        refine J_iadd (pc := 490) hX dL_law_490 ?_
        refine J_sld (pc := 491) hX hS hb hbA dL_law_491 (fun h96 => ?_)
        refine J_call2 (fun y97 I98 e99 => ?_)
        refine jrun_i (pc := 492) (jRunV hX s_L_45 (ci := 6) (T := TX6) (N := 8) (As := [ji (xs ((v1 + (1 : Int32))).toNatClampNeg), ji (xs ((v1 + (2 : Int32))).toNatClampNeg)]) (rest := []) rfl (by decide) (C_X6_says Y hz0 1 sh_root (xs ((v1 + (1 : Int32))).toNatClampNeg) (xs ((v1 + (2 : Int32))).toNatClampNeg) I2 L3 y97 I98 e99) sh_root rfl rfl ⟨by decide, by decide⟩ ⟨Nat.le_of_ble_eq_true rfl, Nat.le_of_ble_eq_true rfl⟩ (Nat.le_of_ble_eq_true rfl) dL_law_492) ?_
        refine J_aload_n (pc := 495) hX 2 rfl dL_law_495 ?_
        refine J_aload_nE (pc := 496) hX 0 rfl dL_law_496 ?_
        refine J_iload_n (pc := 497) hX 3 rfl dL_law_497 ?_
        refine J_iconst (pc := 498) hX (v := (1 : Int32)) (by decide) dL_law_498 ?_
        refine J_iadd (pc := 499) hX dL_law_499 ?_
        refine J_sld (pc := 500) hX hS hb hbA dL_law_500 (fun h100 => ?_)
        refine J_aload_nE (pc := 501) hX 0 rfl dL_law_501 ?_
        refine J_iload_n (pc := 502) hX 3 rfl dL_law_502 ?_
        refine J_iconst (pc := 503) hX (v := (2 : Int32)) (by decide) dL_law_503 ?_
        refine J_iadd (pc := 504) hX dL_law_504 ?_
        refine J_sld (pc := 505) hX hS hb hbA dL_law_505 (fun h101 => ?_)
        refine J_call2 (fun y102 I103 e104 => ?_)
        refine jrun_i (pc := 506) (jRunV hX s_L_48 (ci := 7) (T := TX7) (N := 20) (As := [ji (xs ((v1 + (1 : Int32))).toNatClampNeg), ji (xs ((v1 + (2 : Int32))).toNatClampNeg)]) (rest := [ji y97]) rfl (by decide) (C_X7_says Y hz0 164 sh_mod (xs ((v1 + (1 : Int32))).toNatClampNeg) (xs ((v1 + (2 : Int32))).toNatClampNeg) I98 L3 y102 I103 e104) sh_mod rfl rfl ⟨by decide, by decide⟩ ⟨Nat.le_of_ble_eq_true rfl, Nat.le_of_ble_eq_true rfl⟩ (Nat.le_of_ble_eq_true rfl) dL_law_506) ?_
        refine J_icmp_eq (pc := 509) hX (tgt := 1488) (by decide) dL_law_509 (fun h105 => ?_) (fun h105 => ?_)
        · exact hk9 I103 L3
        · refine J_iconst (pc := 512) hX (v := (0 : Int32)) (by decide) dL_law_512 ?_
          exact J_none
      refine J_swc (7 : Int32) (fun h106 => ?_) (fun h106 => ?_)
      · refine J_swIn (pc := 33) hX (tgt := 514) (off := 481) (7 : Int32) h106 (by decide) (by decide) rfl (by decide) dL_law_33 ?_
        refine J_aload_n (pc := 514) hX 1 rfl dL_law_514 ?_
        refine J_aload_nE (pc := 515) hX 0 rfl dL_law_515 ?_
        refine J_iload_n (pc := 516) hX 3 rfl dL_law_516 ?_
        refine J_iconst (pc := 517) hX (v := (1 : Int32)) (by decide) dL_law_517 ?_
        refine J_iadd (pc := 518) hX dL_law_518 ?_
        refine J_sld (pc := 519) hX hS hb hbA dL_law_519 (fun h107 => ?_)
        refine J_call2 (fun y108 I109 e110 => ?_)
        refine jrun_i (pc := 520) (jRunV hX s_L_49 (ci := 6) (T := TX6) (N := 8) (As := [ji (xs ((v1 + (1 : Int32))).toNatClampNeg)]) (rest := []) rfl (by decide) (C_X6_feed Y hz0 1 sh_root (xs ((v1 + (1 : Int32))).toNatClampNeg) I2 L3 y108 I109 e110) sh_root rfl rfl ⟨by decide, by decide⟩ ⟨Nat.le_of_ble_eq_true rfl, Nat.le_of_ble_eq_true rfl⟩ (Nat.le_of_ble_eq_true rfl) dL_law_520) ?_
        refine J_aload_n (pc := 523) hX 2 rfl dL_law_523 ?_
        refine J_aload_nE (pc := 524) hX 0 rfl dL_law_524 ?_
        refine J_iload_n (pc := 525) hX 3 rfl dL_law_525 ?_
        refine J_iconst (pc := 526) hX (v := (1 : Int32)) (by decide) dL_law_526 ?_
        refine J_iadd (pc := 527) hX dL_law_527 ?_
        refine J_sld (pc := 528) hX hS hb hbA dL_law_528 (fun h111 => ?_)
        refine J_call2 (fun y112 I113 e114 => ?_)
        refine jrun_i (pc := 529) (jRunV hX s_L_52 (ci := 7) (T := TX7) (N := 20) (As := [ji (xs ((v1 + (1 : Int32))).toNatClampNeg)]) (rest := [ji y108]) rfl (by decide) (C_X7_feed Y hz0 164 sh_mod (xs ((v1 + (1 : Int32))).toNatClampNeg) I109 L3 y112 I113 e114) sh_mod rfl rfl ⟨by decide, by decide⟩ ⟨Nat.le_of_ble_eq_true rfl, Nat.le_of_ble_eq_true rfl⟩ (Nat.le_of_ble_eq_true rfl) dL_law_529) ?_
        refine J_icmp_eq (pc := 532) hX (tgt := 1488) (by decide) dL_law_532 (fun h115 => ?_) (fun h115 => ?_)
        · exact hk9 I113 L3
        · refine J_iconst (pc := 535) hX (v := (0 : Int32)) (by decide) dL_law_535 ?_
          exact J_none
      refine J_swc (8 : Int32) (fun h116 => ?_) (fun h116 => ?_)
      · refine J_swIn (pc := 33) hX (tgt := 537) (off := 504) (8 : Int32) h116 (by decide) (by decide) rfl (by decide) dL_law_33 ?_
        refine J_aload_n (pc := 537) hX 1 rfl dL_law_537 ?_
        refine J_call2 (fun y117 I118 e119 => ?_)
        refine jrun_i (pc := 538) (jRunV hX s_L_53 (ci := 6) (T := TX6) (N := 8) (As := []) (rest := []) rfl (by decide) (C_X6_wipe Y hz0 1 sh_root I2 L3 y117 I118 e119) sh_root rfl rfl ⟨by decide, by decide⟩ ⟨Nat.le_of_ble_eq_true rfl, Nat.le_of_ble_eq_true rfl⟩ (Nat.le_of_ble_eq_true rfl) dL_law_538) ?_
        refine J_aload_n (pc := 541) hX 2 rfl dL_law_541 ?_
        refine J_call2 (fun y120 I121 e122 => ?_)
        refine jrun_i (pc := 542) (jRunV hX s_L_57 (ci := 7) (T := TX7) (N := 20) (As := []) (rest := [ji y117]) rfl (by decide) (C_X7_wipe Y hz0 164 sh_mod I118 L3 y120 I121 e122) sh_mod rfl rfl ⟨by decide, by decide⟩ ⟨Nat.le_of_ble_eq_true rfl, Nat.le_of_ble_eq_true rfl⟩ (Nat.le_of_ble_eq_true rfl) dL_law_542) ?_
        refine J_icmp_eq (pc := 545) hX (tgt := 1488) (by decide) dL_law_545 (fun h123 => ?_) (fun h123 => ?_)
        · exact hk9 I121 L3
        · refine J_iconst (pc := 548) hX (v := (0 : Int32)) (by decide) dL_law_548 ?_
          exact J_none
      refine J_swc (9 : Int32) (fun h124 => ?_) (fun h124 => ?_)
      · refine J_swIn (pc := 33) hX (tgt := 550) (off := 517) (9 : Int32) h124 (by decide) (by decide) rfl (by decide) dL_law_33 ?_
        refine J_aload_n (pc := 550) hX 1 rfl dL_law_550 ?_
        refine J_call2 (fun y125 I126 e127 => ?_)
        refine jrun_i (pc := 551) (jRunV hX s_L_58 (ci := 6) (T := TX6) (N := 8) (As := []) (rest := []) rfl (by decide) (C_X6_traffic Y hz0 1 sh_root I2 L3 y125 I126 e127) sh_root rfl rfl ⟨by decide, by decide⟩ ⟨Nat.le_of_ble_eq_true rfl, Nat.le_of_ble_eq_true rfl⟩ (Nat.le_of_ble_eq_true rfl) dL_law_551) ?_
        refine J_aload_n (pc := 554) hX 2 rfl dL_law_554 ?_
        refine J_call2 (fun y128 I129 e130 => ?_)
        refine jrun_i (pc := 555) (jRunV hX s_L_61 (ci := 7) (T := TX7) (N := 20) (As := []) (rest := [ji y125]) rfl (by decide) (C_X7_traffic Y hz0 164 sh_mod I126 L3 y128 I129 e130) sh_mod rfl rfl ⟨by decide, by decide⟩ ⟨Nat.le_of_ble_eq_true rfl, Nat.le_of_ble_eq_true rfl⟩ (Nat.le_of_ble_eq_true rfl) dL_law_555) ?_
        refine J_icmp_eq (pc := 558) hX (tgt := 1488) (by decide) dL_law_558 (fun h131 => ?_) (fun h131 => ?_)
        · exact hk9 I129 L3
        · refine J_iconst (pc := 561) hX (v := (0 : Int32)) (by decide) dL_law_561 ?_
          exact J_none
      refine J_swc (10 : Int32) (fun h132 => ?_) (fun h132 => ?_)
      · refine J_swIn (pc := 33) hX (tgt := 563) (off := 530) (10 : Int32) h132 (by decide) (by decide) rfl (by decide) dL_law_33 ?_
        refine J_aload_n (pc := 563) hX 1 rfl dL_law_563 ?_
        refine J_aload_nE (pc := 564) hX 0 rfl dL_law_564 ?_
        refine J_iload_n (pc := 565) hX 3 rfl dL_law_565 ?_
        refine J_iconst (pc := 566) hX (v := (1 : Int32)) (by decide) dL_law_566 ?_
        refine J_iadd (pc := 567) hX dL_law_567 ?_
        refine J_sld (pc := 568) hX hS hb hbA dL_law_568 (fun h133 => ?_)
        refine J_aload_nE (pc := 569) hX 0 rfl dL_law_569 ?_
        refine J_iload_n (pc := 570) hX 3 rfl dL_law_570 ?_
        refine J_iconst (pc := 571) hX (v := (2 : Int32)) (by decide) dL_law_571 ?_
        refine J_iadd (pc := 572) hX dL_law_572 ?_
        refine J_sld (pc := 573) hX hS hb hbA dL_law_573 (fun h134 => ?_)
        refine J_aload_nE (pc := 574) hX 0 rfl dL_law_574 ?_
        refine J_iload_n (pc := 575) hX 3 rfl dL_law_575 ?_
        refine J_iconst (pc := 576) hX (v := (3 : Int32)) (by decide) dL_law_576 ?_
        refine J_iadd (pc := 577) hX dL_law_577 ?_
        refine J_sld (pc := 578) hX hS hb hbA dL_law_578 (fun h135 => ?_)
        refine J_call2 (fun y136 I137 e138 => ?_)
        refine jrun_i (pc := 579) (jRunV hX s_L_62 (ci := 6) (T := TX6) (N := 8) (As := [ji (xs ((v1 + (1 : Int32))).toNatClampNeg), ji (xs ((v1 + (2 : Int32))).toNatClampNeg), ji (xs ((v1 + (3 : Int32))).toNatClampNeg)]) (rest := []) rfl (by decide) (C_X6_level Y hz0 1 sh_root (xs ((v1 + (1 : Int32))).toNatClampNeg) (xs ((v1 + (2 : Int32))).toNatClampNeg) (xs ((v1 + (3 : Int32))).toNatClampNeg) I2 L3 y136 I137 e138) sh_root rfl rfl ⟨by decide, by decide⟩ ⟨Nat.le_of_ble_eq_true rfl, Nat.le_of_ble_eq_true rfl⟩ (Nat.le_of_ble_eq_true rfl) dL_law_579) ?_
        refine J_aload_n (pc := 582) hX 2 rfl dL_law_582 ?_
        refine J_aload_nE (pc := 583) hX 0 rfl dL_law_583 ?_
        refine J_iload_n (pc := 584) hX 3 rfl dL_law_584 ?_
        refine J_iconst (pc := 585) hX (v := (1 : Int32)) (by decide) dL_law_585 ?_
        refine J_iadd (pc := 586) hX dL_law_586 ?_
        refine J_sld (pc := 587) hX hS hb hbA dL_law_587 (fun h139 => ?_)
        refine J_aload_nE (pc := 588) hX 0 rfl dL_law_588 ?_
        refine J_iload_n (pc := 589) hX 3 rfl dL_law_589 ?_
        refine J_iconst (pc := 590) hX (v := (2 : Int32)) (by decide) dL_law_590 ?_
        refine J_iadd (pc := 591) hX dL_law_591 ?_
        refine J_sld (pc := 592) hX hS hb hbA dL_law_592 (fun h140 => ?_)
        refine J_aload_nE (pc := 593) hX 0 rfl dL_law_593 ?_
        refine J_iload_n (pc := 594) hX 3 rfl dL_law_594 ?_
        refine J_iconst (pc := 595) hX (v := (3 : Int32)) (by decide) dL_law_595 ?_
        refine J_iadd (pc := 596) hX dL_law_596 ?_
        refine J_sld (pc := 597) hX hS hb hbA dL_law_597 (fun h141 => ?_)
        refine J_call2 (fun y142 I143 e144 => ?_)
        refine jrun_i (pc := 598) (jRunV hX s_L_65 (ci := 7) (T := TX7) (N := 20) (As := [ji (xs ((v1 + (1 : Int32))).toNatClampNeg), ji (xs ((v1 + (2 : Int32))).toNatClampNeg), ji (xs ((v1 + (3 : Int32))).toNatClampNeg)]) (rest := [ji y136]) rfl (by decide) (C_X7_level Y hz0 164 sh_mod (xs ((v1 + (1 : Int32))).toNatClampNeg) (xs ((v1 + (2 : Int32))).toNatClampNeg) (xs ((v1 + (3 : Int32))).toNatClampNeg) I137 L3 y142 I143 e144) sh_mod rfl rfl ⟨by decide, by decide⟩ ⟨Nat.le_of_ble_eq_true rfl, Nat.le_of_ble_eq_true rfl⟩ (Nat.le_of_ble_eq_true rfl) dL_law_598) ?_
        refine J_icmp_eq (pc := 601) hX (tgt := 1488) (by decide) dL_law_601 (fun h145 => ?_) (fun h145 => ?_)
        · exact hk9 I143 L3
        · refine J_iconst (pc := 604) hX (v := (0 : Int32)) (by decide) dL_law_604 ?_
          exact J_none
      refine J_swc (11 : Int32) (fun h146 => ?_) (fun h146 => ?_)
      · refine J_swIn (pc := 33) hX (tgt := 606) (off := 573) (11 : Int32) h146 (by decide) (by decide) rfl (by decide) dL_law_33 ?_
        refine J_aload_n (pc := 606) hX 1 rfl dL_law_606 ?_
        refine J_call2 (fun y147 I148 e149 => ?_)
        refine jrun_i (pc := 607) (jRunV hX s_L_66 (ci := 6) (T := TX6) (N := 8) (As := []) (rest := []) rfl (by decide) (C_X6_drop Y hz0 1 sh_root I2 L3 y147 I148 e149) sh_root rfl rfl ⟨by decide, by decide⟩ ⟨Nat.le_of_ble_eq_true rfl, Nat.le_of_ble_eq_true rfl⟩ (Nat.le_of_ble_eq_true rfl) dL_law_607) ?_
        refine J_aload_n (pc := 610) hX 2 rfl dL_law_610 ?_
        refine J_call2 (fun y150 I151 e152 => ?_)
        refine jrun_i (pc := 611) (jRunV hX s_L_69 (ci := 7) (T := TX7) (N := 20) (As := []) (rest := [ji y147]) rfl (by decide) (C_X7_drop Y hz0 164 sh_mod I148 L3 y150 I151 e152) sh_mod rfl rfl ⟨by decide, by decide⟩ ⟨Nat.le_of_ble_eq_true rfl, Nat.le_of_ble_eq_true rfl⟩ (Nat.le_of_ble_eq_true rfl) dL_law_611) ?_
        refine J_icmp_eq (pc := 614) hX (tgt := 1488) (by decide) dL_law_614 (fun h153 => ?_) (fun h153 => ?_)
        · exact hk9 I151 L3
        · refine J_iconst (pc := 617) hX (v := (0 : Int32)) (by decide) dL_law_617 ?_
          exact J_none
      refine J_swc (12 : Int32) (fun h154 => ?_) (fun h154 => ?_)
      · refine J_swIn (pc := 33) hX (tgt := 619) (off := 586) (12 : Int32) h154 (by decide) (by decide) rfl (by decide) dL_law_33 ?_
        refine J_aload_n (pc := 619) hX 1 rfl dL_law_619 ?_
        refine J_aload_nE (pc := 620) hX 0 rfl dL_law_620 ?_
        refine J_iload_n (pc := 621) hX 3 rfl dL_law_621 ?_
        refine J_iconst (pc := 622) hX (v := (1 : Int32)) (by decide) dL_law_622 ?_
        refine J_iadd (pc := 623) hX dL_law_623 ?_
        refine J_sld (pc := 624) hX hS hb hbA dL_law_624 (fun h155 => ?_)
        refine J_aload_nE (pc := 625) hX 0 rfl dL_law_625 ?_
        refine J_iload_n (pc := 626) hX 3 rfl dL_law_626 ?_
        refine J_iconst (pc := 627) hX (v := (2 : Int32)) (by decide) dL_law_627 ?_
        refine J_iadd (pc := 628) hX dL_law_628 ?_
        refine J_sld (pc := 629) hX hS hb hbA dL_law_629 (fun h156 => ?_)
        refine J_call2 (fun y157 I158 e159 => ?_)
        refine jrun_i (pc := 630) (jRunV hX s_L_70 (ci := 6) (T := TX6) (N := 8) (As := [ji (xs ((v1 + (1 : Int32))).toNatClampNeg), ji (xs ((v1 + (2 : Int32))).toNatClampNeg)]) (rest := []) rfl (by decide) (C_X6_mode Y hz0 1 sh_root (xs ((v1 + (1 : Int32))).toNatClampNeg) (xs ((v1 + (2 : Int32))).toNatClampNeg) I2 L3 y157 I158 e159) sh_root rfl rfl ⟨by decide, by decide⟩ ⟨Nat.le_of_ble_eq_true rfl, Nat.le_of_ble_eq_true rfl⟩ (Nat.le_of_ble_eq_true rfl) dL_law_630) ?_
        refine J_aload_n (pc := 633) hX 2 rfl dL_law_633 ?_
        refine J_aload_nE (pc := 634) hX 0 rfl dL_law_634 ?_
        refine J_iload_n (pc := 635) hX 3 rfl dL_law_635 ?_
        refine J_iconst (pc := 636) hX (v := (1 : Int32)) (by decide) dL_law_636 ?_
        refine J_iadd (pc := 637) hX dL_law_637 ?_
        refine J_sld (pc := 638) hX hS hb hbA dL_law_638 (fun h160 => ?_)
        refine J_aload_nE (pc := 639) hX 0 rfl dL_law_639 ?_
        refine J_iload_n (pc := 640) hX 3 rfl dL_law_640 ?_
        refine J_iconst (pc := 641) hX (v := (2 : Int32)) (by decide) dL_law_641 ?_
        refine J_iadd (pc := 642) hX dL_law_642 ?_
        refine J_sld (pc := 643) hX hS hb hbA dL_law_643 (fun h161 => ?_)
        refine J_call2 (fun y162 I163 e164 => ?_)
        refine jrun_i (pc := 644) (jRunV hX s_L_73 (ci := 7) (T := TX7) (N := 20) (As := [ji (xs ((v1 + (1 : Int32))).toNatClampNeg), ji (xs ((v1 + (2 : Int32))).toNatClampNeg)]) (rest := [ji y157]) rfl (by decide) (C_X7_mode Y hz0 164 sh_mod (xs ((v1 + (1 : Int32))).toNatClampNeg) (xs ((v1 + (2 : Int32))).toNatClampNeg) I158 L3 y162 I163 e164) sh_mod rfl rfl ⟨by decide, by decide⟩ ⟨Nat.le_of_ble_eq_true rfl, Nat.le_of_ble_eq_true rfl⟩ (Nat.le_of_ble_eq_true rfl) dL_law_644) ?_
        refine J_icmp_eq (pc := 647) hX (tgt := 1488) (by decide) dL_law_647 (fun h165 => ?_) (fun h165 => ?_)
        · exact hk9 I163 L3
        · refine J_iconst (pc := 650) hX (v := (0 : Int32)) (by decide) dL_law_650 ?_
          exact J_none
      refine J_swc (13 : Int32) (fun h166 => ?_) (fun h166 => ?_)
      · refine J_swIn (pc := 33) hX (tgt := 652) (off := 619) (13 : Int32) h166 (by decide) (by decide) rfl (by decide) dL_law_33 ?_
        refine J_aload_n (pc := 652) hX 1 rfl dL_law_652 ?_
        refine J_aload_nE (pc := 653) hX 0 rfl dL_law_653 ?_
        refine J_iload_n (pc := 654) hX 3 rfl dL_law_654 ?_
        refine J_iconst (pc := 655) hX (v := (1 : Int32)) (by decide) dL_law_655 ?_
        refine J_iadd (pc := 656) hX dL_law_656 ?_
        refine J_sld (pc := 657) hX hS hb hbA dL_law_657 (fun h167 => ?_)
        refine J_aload_nE (pc := 658) hX 0 rfl dL_law_658 ?_
        refine J_iload_n (pc := 659) hX 3 rfl dL_law_659 ?_
        refine J_iconst (pc := 660) hX (v := (2 : Int32)) (by decide) dL_law_660 ?_
        refine J_iadd (pc := 661) hX dL_law_661 ?_
        refine J_sld (pc := 662) hX hS hb hbA dL_law_662 (fun h168 => ?_)
        refine J_call2 (fun y169 I170 e171 => ?_)
        refine jrun_i (pc := 663) (jRunV hX s_L_74 (ci := 6) (T := TX6) (N := 8) (As := [ji (xs ((v1 + (1 : Int32))).toNatClampNeg), ji (xs ((v1 + (2 : Int32))).toNatClampNeg)]) (rest := []) rfl (by decide) (C_X6_tell Y hz0 1 sh_root (xs ((v1 + (1 : Int32))).toNatClampNeg) (xs ((v1 + (2 : Int32))).toNatClampNeg) I2 L3 y169 I170 e171) sh_root rfl rfl ⟨by decide, by decide⟩ ⟨Nat.le_of_ble_eq_true rfl, Nat.le_of_ble_eq_true rfl⟩ (Nat.le_of_ble_eq_true rfl) dL_law_663) ?_
        refine J_aload_n (pc := 666) hX 2 rfl dL_law_666 ?_
        refine J_aload_nE (pc := 667) hX 0 rfl dL_law_667 ?_
        refine J_iload_n (pc := 668) hX 3 rfl dL_law_668 ?_
        refine J_iconst (pc := 669) hX (v := (1 : Int32)) (by decide) dL_law_669 ?_
        refine J_iadd (pc := 670) hX dL_law_670 ?_
        refine J_sld (pc := 671) hX hS hb hbA dL_law_671 (fun h172 => ?_)
        refine J_aload_nE (pc := 672) hX 0 rfl dL_law_672 ?_
        refine J_iload_n (pc := 673) hX 3 rfl dL_law_673 ?_
        refine J_iconst (pc := 674) hX (v := (2 : Int32)) (by decide) dL_law_674 ?_
        refine J_iadd (pc := 675) hX dL_law_675 ?_
        refine J_sld (pc := 676) hX hS hb hbA dL_law_676 (fun h173 => ?_)
        refine J_call2 (fun y174 I175 e176 => ?_)
        refine jrun_i (pc := 677) (jRunV hX s_L_77 (ci := 7) (T := TX7) (N := 20) (As := [ji (xs ((v1 + (1 : Int32))).toNatClampNeg), ji (xs ((v1 + (2 : Int32))).toNatClampNeg)]) (rest := [ji y169]) rfl (by decide) (C_X7_tell Y hz0 164 sh_mod (xs ((v1 + (1 : Int32))).toNatClampNeg) (xs ((v1 + (2 : Int32))).toNatClampNeg) I170 L3 y174 I175 e176) sh_mod rfl rfl ⟨by decide, by decide⟩ ⟨Nat.le_of_ble_eq_true rfl, Nat.le_of_ble_eq_true rfl⟩ (Nat.le_of_ble_eq_true rfl) dL_law_677) ?_
        refine J_icmp_eq (pc := 680) hX (tgt := 1488) (by decide) dL_law_680 (fun h177 => ?_) (fun h177 => ?_)
        · exact hk9 I175 L3
        · refine J_iconst (pc := 683) hX (v := (0 : Int32)) (by decide) dL_law_683 ?_
          exact J_none
      refine J_swc (14 : Int32) (fun h178 => ?_) (fun h178 => ?_)
      · refine J_swIn (pc := 33) hX (tgt := 685) (off := 652) (14 : Int32) h178 (by decide) (by decide) rfl (by decide) dL_law_33 ?_
        refine J_aload_n (pc := 685) hX 1 rfl dL_law_685 ?_
        refine J_aload_nE (pc := 686) hX 0 rfl dL_law_686 ?_
        refine J_iload_n (pc := 687) hX 3 rfl dL_law_687 ?_
        refine J_iconst (pc := 688) hX (v := (1 : Int32)) (by decide) dL_law_688 ?_
        refine J_iadd (pc := 689) hX dL_law_689 ?_
        refine J_sld (pc := 690) hX hS hb hbA dL_law_690 (fun h179 => ?_)
        refine J_call2 (fun y180 I181 e182 => ?_)
        refine jrun_i (pc := 691) (jRunV hX s_L_78 (ci := 6) (T := TX6) (N := 8) (As := [ji (xs ((v1 + (1 : Int32))).toNatClampNeg)]) (rest := []) rfl (by decide) (C_X6_read Y hz0 1 sh_root (xs ((v1 + (1 : Int32))).toNatClampNeg) I2 L3 y180 I181 e182) sh_root rfl rfl ⟨by decide, by decide⟩ ⟨Nat.le_of_ble_eq_true rfl, Nat.le_of_ble_eq_true rfl⟩ (Nat.le_of_ble_eq_true rfl) dL_law_691) ?_
        refine J_aload_n (pc := 694) hX 2 rfl dL_law_694 ?_
        refine J_aload_nE (pc := 695) hX 0 rfl dL_law_695 ?_
        refine J_iload_n (pc := 696) hX 3 rfl dL_law_696 ?_
        refine J_iconst (pc := 697) hX (v := (1 : Int32)) (by decide) dL_law_697 ?_
        refine J_iadd (pc := 698) hX dL_law_698 ?_
        refine J_sld (pc := 699) hX hS hb hbA dL_law_699 (fun h183 => ?_)
        refine J_call2 (fun y184 I185 e186 => ?_)
        refine jrun_i (pc := 700) (jRunV hX s_L_81 (ci := 7) (T := TX7) (N := 20) (As := [ji (xs ((v1 + (1 : Int32))).toNatClampNeg)]) (rest := [ji y180]) rfl (by decide) (C_X7_read Y hz0 164 sh_mod (xs ((v1 + (1 : Int32))).toNatClampNeg) I181 L3 y184 I185 e186) sh_mod rfl rfl ⟨by decide, by decide⟩ ⟨Nat.le_of_ble_eq_true rfl, Nat.le_of_ble_eq_true rfl⟩ (Nat.le_of_ble_eq_true rfl) dL_law_700) ?_
        refine J_icmp_eq (pc := 703) hX (tgt := 1488) (by decide) dL_law_703 (fun h187 => ?_) (fun h187 => ?_)
        · exact hk9 I185 L3
        · refine J_iconst (pc := 706) hX (v := (0 : Int32)) (by decide) dL_law_706 ?_
          exact J_none
      refine J_swc (15 : Int32) (fun h188 => ?_) (fun h188 => ?_)
      · refine J_swIn (pc := 33) hX (tgt := 708) (off := 675) (15 : Int32) h188 (by decide) (by decide) rfl (by decide) dL_law_33 ?_
        refine J_aload_n (pc := 708) hX 1 rfl dL_law_708 ?_
        refine J_aload_nE (pc := 709) hX 0 rfl dL_law_709 ?_
        refine J_iload_n (pc := 710) hX 3 rfl dL_law_710 ?_
        refine J_iconst (pc := 711) hX (v := (1 : Int32)) (by decide) dL_law_711 ?_
        refine J_iadd (pc := 712) hX dL_law_712 ?_
        refine J_sld (pc := 713) hX hS hb hbA dL_law_713 (fun h189 => ?_)
        refine J_aload_nE (pc := 714) hX 0 rfl dL_law_714 ?_
        refine J_iload_n (pc := 715) hX 3 rfl dL_law_715 ?_
        refine J_iconst (pc := 716) hX (v := (2 : Int32)) (by decide) dL_law_716 ?_
        refine J_iadd (pc := 717) hX dL_law_717 ?_
        refine J_sld (pc := 718) hX hS hb hbA dL_law_718 (fun h190 => ?_)
        refine J_call2 (fun y191 I192 e193 => ?_)
        refine jrun_i (pc := 719) (jRunV hX s_L_82 (ci := 6) (T := TX6) (N := 8) (As := [ji (xs ((v1 + (1 : Int32))).toNatClampNeg), ji (xs ((v1 + (2 : Int32))).toNatClampNeg)]) (rest := []) rfl (by decide) (C_X6_write Y hz0 1 sh_root (xs ((v1 + (1 : Int32))).toNatClampNeg) (xs ((v1 + (2 : Int32))).toNatClampNeg) I2 L3 y191 I192 e193) sh_root rfl rfl ⟨by decide, by decide⟩ ⟨Nat.le_of_ble_eq_true rfl, Nat.le_of_ble_eq_true rfl⟩ (Nat.le_of_ble_eq_true rfl) dL_law_719) ?_
        refine J_aload_n (pc := 722) hX 2 rfl dL_law_722 ?_
        refine J_aload_nE (pc := 723) hX 0 rfl dL_law_723 ?_
        refine J_iload_n (pc := 724) hX 3 rfl dL_law_724 ?_
        refine J_iconst (pc := 725) hX (v := (1 : Int32)) (by decide) dL_law_725 ?_
        refine J_iadd (pc := 726) hX dL_law_726 ?_
        refine J_sld (pc := 727) hX hS hb hbA dL_law_727 (fun h194 => ?_)
        refine J_aload_nE (pc := 728) hX 0 rfl dL_law_728 ?_
        refine J_iload_n (pc := 729) hX 3 rfl dL_law_729 ?_
        refine J_iconst (pc := 730) hX (v := (2 : Int32)) (by decide) dL_law_730 ?_
        refine J_iadd (pc := 731) hX dL_law_731 ?_
        refine J_sld (pc := 732) hX hS hb hbA dL_law_732 (fun h195 => ?_)
        refine J_call2 (fun y196 I197 e198 => ?_)
        refine jrun_i (pc := 733) (jRunV hX s_L_85 (ci := 7) (T := TX7) (N := 20) (As := [ji (xs ((v1 + (1 : Int32))).toNatClampNeg), ji (xs ((v1 + (2 : Int32))).toNatClampNeg)]) (rest := [ji y191]) rfl (by decide) (C_X7_write Y hz0 164 sh_mod (xs ((v1 + (1 : Int32))).toNatClampNeg) (xs ((v1 + (2 : Int32))).toNatClampNeg) I192 L3 y196 I197 e198) sh_mod rfl rfl ⟨by decide, by decide⟩ ⟨Nat.le_of_ble_eq_true rfl, Nat.le_of_ble_eq_true rfl⟩ (Nat.le_of_ble_eq_true rfl) dL_law_733) ?_
        refine J_icmp_eq (pc := 736) hX (tgt := 1488) (by decide) dL_law_736 (fun h199 => ?_) (fun h199 => ?_)
        · exact hk9 I197 L3
        · refine J_iconst (pc := 739) hX (v := (0 : Int32)) (by decide) dL_law_739 ?_
          exact J_none
      refine J_swc (16 : Int32) (fun h200 => ?_) (fun h200 => ?_)
      · refine J_swIn (pc := 33) hX (tgt := 741) (off := 708) (16 : Int32) h200 (by decide) (by decide) rfl (by decide) dL_law_33 ?_
        refine J_aload_n (pc := 741) hX 1 rfl dL_law_741 ?_
        refine J_aload_nE (pc := 742) hX 0 rfl dL_law_742 ?_
        refine J_iload_n (pc := 743) hX 3 rfl dL_law_743 ?_
        refine J_iconst (pc := 744) hX (v := (1 : Int32)) (by decide) dL_law_744 ?_
        refine J_iadd (pc := 745) hX dL_law_745 ?_
        refine J_sld (pc := 746) hX hS hb hbA dL_law_746 (fun h201 => ?_)
        refine J_call2 (fun y202 I203 e204 => ?_)
        refine jrun_i (pc := 747) (jRunV hX s_L_86 (ci := 6) (T := TX6) (N := 8) (As := [ji (xs ((v1 + (1 : Int32))).toNatClampNeg)]) (rest := []) rfl (by decide) (C_X6_sweep Y hz0 1 sh_root (xs ((v1 + (1 : Int32))).toNatClampNeg) I2 L3 y202 I203 e204) sh_root rfl rfl ⟨by decide, by decide⟩ ⟨Nat.le_of_ble_eq_true rfl, Nat.le_of_ble_eq_true rfl⟩ (Nat.le_of_ble_eq_true rfl) dL_law_747) ?_
        refine J_aload_n (pc := 750) hX 2 rfl dL_law_750 ?_
        refine J_aload_nE (pc := 751) hX 0 rfl dL_law_751 ?_
        refine J_iload_n (pc := 752) hX 3 rfl dL_law_752 ?_
        refine J_iconst (pc := 753) hX (v := (1 : Int32)) (by decide) dL_law_753 ?_
        refine J_iadd (pc := 754) hX dL_law_754 ?_
        refine J_sld (pc := 755) hX hS hb hbA dL_law_755 (fun h205 => ?_)
        refine J_call2 (fun y206 I207 e208 => ?_)
        refine jrun_i (pc := 756) (jRunV hX s_L_89 (ci := 7) (T := TX7) (N := 20) (As := [ji (xs ((v1 + (1 : Int32))).toNatClampNeg)]) (rest := [ji y202]) rfl (by decide) (C_X7_sweep Y hz0 164 sh_mod (xs ((v1 + (1 : Int32))).toNatClampNeg) I203 L3 y206 I207 e208) sh_mod rfl rfl ⟨by decide, by decide⟩ ⟨Nat.le_of_ble_eq_true rfl, Nat.le_of_ble_eq_true rfl⟩ (Nat.le_of_ble_eq_true rfl) dL_law_756) ?_
        refine J_icmp_eq (pc := 759) hX (tgt := 1488) (by decide) dL_law_759 (fun h209 => ?_) (fun h209 => ?_)
        · exact hk9 I207 L3
        · refine J_iconst (pc := 762) hX (v := (0 : Int32)) (by decide) dL_law_762 ?_
          exact J_none
      refine J_swc (17 : Int32) (fun h210 => ?_) (fun h210 => ?_)
      · refine J_swIn (pc := 33) hX (tgt := 764) (off := 731) (17 : Int32) h210 (by decide) (by decide) rfl (by decide) dL_law_33 ?_
        refine J_aload_n (pc := 764) hX 1 rfl dL_law_764 ?_
        refine J_call2 (fun y211 I212 e213 => ?_)
        refine jrun_i (pc := 765) (jRunV hX s_L_90 (ci := 6) (T := TX6) (N := 8) (As := []) (rest := []) rfl (by decide) (C_X6_clear Y hz0 1 sh_root I2 L3 y211 I212 e213) sh_root rfl rfl ⟨by decide, by decide⟩ ⟨Nat.le_of_ble_eq_true rfl, Nat.le_of_ble_eq_true rfl⟩ (Nat.le_of_ble_eq_true rfl) dL_law_765) ?_
        refine J_aload_n (pc := 768) hX 2 rfl dL_law_768 ?_
        refine J_call2 (fun y214 I215 e216 => ?_)
        refine jrun_i (pc := 769) (jRunV hX s_L_93 (ci := 7) (T := TX7) (N := 20) (As := []) (rest := [ji y211]) rfl (by decide) (C_X7_clear Y hz0 164 sh_mod I212 L3 y214 I215 e216) sh_mod rfl rfl ⟨by decide, by decide⟩ ⟨Nat.le_of_ble_eq_true rfl, Nat.le_of_ble_eq_true rfl⟩ (Nat.le_of_ble_eq_true rfl) dL_law_769) ?_
        refine J_icmp_eq (pc := 772) hX (tgt := 1488) (by decide) dL_law_772 (fun h217 => ?_) (fun h217 => ?_)
        · exact hk9 I215 L3
        · refine J_iconst (pc := 775) hX (v := (0 : Int32)) (by decide) dL_law_775 ?_
          exact J_none
      refine J_swc (18 : Int32) (fun h218 => ?_) (fun h218 => ?_)
      · refine J_swIn (pc := 33) hX (tgt := 777) (off := 744) (18 : Int32) h218 (by decide) (by decide) rfl (by decide) dL_law_33 ?_
        refine J_aload_n (pc := 777) hX 1 rfl dL_law_777 ?_
        refine J_aload_nE (pc := 778) hX 0 rfl dL_law_778 ?_
        refine J_iload_n (pc := 779) hX 3 rfl dL_law_779 ?_
        refine J_iconst (pc := 780) hX (v := (1 : Int32)) (by decide) dL_law_780 ?_
        refine J_iadd (pc := 781) hX dL_law_781 ?_
        refine J_sld (pc := 782) hX hS hb hbA dL_law_782 (fun h219 => ?_)
        refine J_aload_nE (pc := 783) hX 0 rfl dL_law_783 ?_
        refine J_iload_n (pc := 784) hX 3 rfl dL_law_784 ?_
        refine J_iconst (pc := 785) hX (v := (2 : Int32)) (by decide) dL_law_785 ?_
        refine J_iadd (pc := 786) hX dL_law_786 ?_
        refine J_sld (pc := 787) hX hS hb hbA dL_law_787 (fun h220 => ?_)
        refine J_call2 (fun y221 I222 e223 => ?_)
        refine jrun_i (pc := 788) (jRunV hX s_L_94 (ci := 6) (T := TX6) (N := 8) (As := [ji (xs ((v1 + (1 : Int32))).toNatClampNeg), ji (xs ((v1 + (2 : Int32))).toNatClampNeg)]) (rest := []) rfl (by decide) (C_X6_levelOf Y hz0 1 sh_root (xs ((v1 + (1 : Int32))).toNatClampNeg) (xs ((v1 + (2 : Int32))).toNatClampNeg) I2 L3 y221 I222 e223) sh_root rfl rfl ⟨by decide, by decide⟩ ⟨Nat.le_of_ble_eq_true rfl, Nat.le_of_ble_eq_true rfl⟩ (Nat.le_of_ble_eq_true rfl) dL_law_788) ?_
        refine J_aload_n (pc := 791) hX 2 rfl dL_law_791 ?_
        refine J_aload_nE (pc := 792) hX 0 rfl dL_law_792 ?_
        refine J_iload_n (pc := 793) hX 3 rfl dL_law_793 ?_
        refine J_iconst (pc := 794) hX (v := (1 : Int32)) (by decide) dL_law_794 ?_
        refine J_iadd (pc := 795) hX dL_law_795 ?_
        refine J_sld (pc := 796) hX hS hb hbA dL_law_796 (fun h224 => ?_)
        refine J_aload_nE (pc := 797) hX 0 rfl dL_law_797 ?_
        refine J_iload_n (pc := 798) hX 3 rfl dL_law_798 ?_
        refine J_iconst (pc := 799) hX (v := (2 : Int32)) (by decide) dL_law_799 ?_
        refine J_iadd (pc := 800) hX dL_law_800 ?_
        refine J_sld (pc := 801) hX hS hb hbA dL_law_801 (fun h225 => ?_)
        refine J_call2 (fun y226 I227 e228 => ?_)
        refine jrun_i (pc := 802) (jRunV hX s_L_97 (ci := 7) (T := TX7) (N := 20) (As := [ji (xs ((v1 + (1 : Int32))).toNatClampNeg), ji (xs ((v1 + (2 : Int32))).toNatClampNeg)]) (rest := [ji y221]) rfl (by decide) (C_X7_levelOf Y hz0 164 sh_mod (xs ((v1 + (1 : Int32))).toNatClampNeg) (xs ((v1 + (2 : Int32))).toNatClampNeg) I222 L3 y226 I227 e228) sh_mod rfl rfl ⟨by decide, by decide⟩ ⟨Nat.le_of_ble_eq_true rfl, Nat.le_of_ble_eq_true rfl⟩ (Nat.le_of_ble_eq_true rfl) dL_law_802) ?_
        refine J_icmp_eq (pc := 805) hX (tgt := 1488) (by decide) dL_law_805 (fun h229 => ?_) (fun h229 => ?_)
        · exact hk9 I227 L3
        · refine J_iconst (pc := 808) hX (v := (0 : Int32)) (by decide) dL_law_808 ?_
          exact J_none
      refine J_swc (19 : Int32) (fun h230 => ?_) (fun h230 => ?_)
      · refine J_swIn (pc := 33) hX (tgt := 810) (off := 777) (19 : Int32) h230 (by decide) (by decide) rfl (by decide) dL_law_33 ?_
        refine J_aload_n (pc := 810) hX 1 rfl dL_law_810 ?_
        refine J_aload_nE (pc := 811) hX 0 rfl dL_law_811 ?_
        refine J_iload_n (pc := 812) hX 3 rfl dL_law_812 ?_
        refine J_iconst (pc := 813) hX (v := (1 : Int32)) (by decide) dL_law_813 ?_
        refine J_iadd (pc := 814) hX dL_law_814 ?_
        refine J_sld (pc := 815) hX hS hb hbA dL_law_815 (fun h231 => ?_)
        refine J_aload_nE (pc := 816) hX 0 rfl dL_law_816 ?_
        refine J_iload_n (pc := 817) hX 3 rfl dL_law_817 ?_
        refine J_iconst (pc := 818) hX (v := (2 : Int32)) (by decide) dL_law_818 ?_
        refine J_iadd (pc := 819) hX dL_law_819 ?_
        refine J_sld (pc := 820) hX hS hb hbA dL_law_820 (fun h232 => ?_)
        refine J_aload_nE (pc := 821) hX 0 rfl dL_law_821 ?_
        refine J_iload_n (pc := 822) hX 3 rfl dL_law_822 ?_
        refine J_iconst (pc := 823) hX (v := (3 : Int32)) (by decide) dL_law_823 ?_
        refine J_iadd (pc := 824) hX dL_law_824 ?_
        refine J_sld (pc := 825) hX hS hb hbA dL_law_825 (fun h233 => ?_)
        refine J_call2 (fun y234 I235 e236 => ?_)
        refine jrun_i (pc := 826) (jRunV hX s_L_98 (ci := 6) (T := TX6) (N := 8) (As := [ji (xs ((v1 + (1 : Int32))).toNatClampNeg), ji (xs ((v1 + (2 : Int32))).toNatClampNeg), ji (xs ((v1 + (3 : Int32))).toNatClampNeg)]) (rest := []) rfl (by decide) (C_X6_slot Y hz0 1 sh_root (xs ((v1 + (1 : Int32))).toNatClampNeg) (xs ((v1 + (2 : Int32))).toNatClampNeg) (xs ((v1 + (3 : Int32))).toNatClampNeg) I2 L3 y234 I235 e236) sh_root rfl rfl ⟨by decide, by decide⟩ ⟨Nat.le_of_ble_eq_true rfl, Nat.le_of_ble_eq_true rfl⟩ (Nat.le_of_ble_eq_true rfl) dL_law_826) ?_
        refine J_aload_n (pc := 829) hX 2 rfl dL_law_829 ?_
        refine J_aload_nE (pc := 830) hX 0 rfl dL_law_830 ?_
        refine J_iload_n (pc := 831) hX 3 rfl dL_law_831 ?_
        refine J_iconst (pc := 832) hX (v := (1 : Int32)) (by decide) dL_law_832 ?_
        refine J_iadd (pc := 833) hX dL_law_833 ?_
        refine J_sld (pc := 834) hX hS hb hbA dL_law_834 (fun h237 => ?_)
        refine J_aload_nE (pc := 835) hX 0 rfl dL_law_835 ?_
        refine J_iload_n (pc := 836) hX 3 rfl dL_law_836 ?_
        refine J_iconst (pc := 837) hX (v := (2 : Int32)) (by decide) dL_law_837 ?_
        refine J_iadd (pc := 838) hX dL_law_838 ?_
        refine J_sld (pc := 839) hX hS hb hbA dL_law_839 (fun h238 => ?_)
        refine J_aload_nE (pc := 840) hX 0 rfl dL_law_840 ?_
        refine J_iload_n (pc := 841) hX 3 rfl dL_law_841 ?_
        refine J_iconst (pc := 842) hX (v := (3 : Int32)) (by decide) dL_law_842 ?_
        refine J_iadd (pc := 843) hX dL_law_843 ?_
        refine J_sld (pc := 844) hX hS hb hbA dL_law_844 (fun h239 => ?_)
        refine J_call2 (fun y240 I241 e242 => ?_)
        refine jrun_i (pc := 845) (jRunV hX s_L_101 (ci := 7) (T := TX7) (N := 20) (As := [ji (xs ((v1 + (1 : Int32))).toNatClampNeg), ji (xs ((v1 + (2 : Int32))).toNatClampNeg), ji (xs ((v1 + (3 : Int32))).toNatClampNeg)]) (rest := [ji y234]) rfl (by decide) (C_X7_slot Y hz0 164 sh_mod (xs ((v1 + (1 : Int32))).toNatClampNeg) (xs ((v1 + (2 : Int32))).toNatClampNeg) (xs ((v1 + (3 : Int32))).toNatClampNeg) I235 L3 y240 I241 e242) sh_mod rfl rfl ⟨by decide, by decide⟩ ⟨Nat.le_of_ble_eq_true rfl, Nat.le_of_ble_eq_true rfl⟩ (Nat.le_of_ble_eq_true rfl) dL_law_845) ?_
        refine J_icmp_eq (pc := 848) hX (tgt := 1488) (by decide) dL_law_848 (fun h243 => ?_) (fun h243 => ?_)
        · exact hk9 I241 L3
        · refine J_iconst (pc := 851) hX (v := (0 : Int32)) (by decide) dL_law_851 ?_
          exact J_none
      refine J_swc (20 : Int32) (fun h244 => ?_) (fun h244 => ?_)
      · refine J_swIn (pc := 33) hX (tgt := 853) (off := 820) (20 : Int32) h244 (by decide) (by decide) rfl (by decide) dL_law_33 ?_
        refine J_aload_n (pc := 853) hX 1 rfl dL_law_853 ?_
        refine J_aload_nE (pc := 854) hX 0 rfl dL_law_854 ?_
        refine J_iload_n (pc := 855) hX 3 rfl dL_law_855 ?_
        refine J_iconst (pc := 856) hX (v := (1 : Int32)) (by decide) dL_law_856 ?_
        refine J_iadd (pc := 857) hX dL_law_857 ?_
        refine J_sld (pc := 858) hX hS hb hbA dL_law_858 (fun h245 => ?_)
        refine J_aload_nE (pc := 859) hX 0 rfl dL_law_859 ?_
        refine J_iload_n (pc := 860) hX 3 rfl dL_law_860 ?_
        refine J_iconst (pc := 861) hX (v := (2 : Int32)) (by decide) dL_law_861 ?_
        refine J_iadd (pc := 862) hX dL_law_862 ?_
        refine J_sld (pc := 863) hX hS hb hbA dL_law_863 (fun h246 => ?_)
        refine J_call2 (fun y247 I248 e249 => ?_)
        refine jrun_i (pc := 864) (jRunV hX s_L_102 (ci := 6) (T := TX6) (N := 8) (As := [ji (xs ((v1 + (1 : Int32))).toNatClampNeg), ji (xs ((v1 + (2 : Int32))).toNatClampNeg)]) (rest := []) rfl (by decide) (C_X6_value Y hz0 1 sh_root (xs ((v1 + (1 : Int32))).toNatClampNeg) (xs ((v1 + (2 : Int32))).toNatClampNeg) I2 L3 y247 I248 e249) sh_root rfl rfl ⟨by decide, by decide⟩ ⟨Nat.le_of_ble_eq_true rfl, Nat.le_of_ble_eq_true rfl⟩ (Nat.le_of_ble_eq_true rfl) dL_law_864) ?_
        refine J_aload_n (pc := 867) hX 2 rfl dL_law_867 ?_
        refine J_aload_nE (pc := 868) hX 0 rfl dL_law_868 ?_
        refine J_iload_n (pc := 869) hX 3 rfl dL_law_869 ?_
        refine J_iconst (pc := 870) hX (v := (1 : Int32)) (by decide) dL_law_870 ?_
        refine J_iadd (pc := 871) hX dL_law_871 ?_
        refine J_sld (pc := 872) hX hS hb hbA dL_law_872 (fun h250 => ?_)
        refine J_aload_nE (pc := 873) hX 0 rfl dL_law_873 ?_
        refine J_iload_n (pc := 874) hX 3 rfl dL_law_874 ?_
        refine J_iconst (pc := 875) hX (v := (2 : Int32)) (by decide) dL_law_875 ?_
        refine J_iadd (pc := 876) hX dL_law_876 ?_
        refine J_sld (pc := 877) hX hS hb hbA dL_law_877 (fun h251 => ?_)
        refine J_call2 (fun y252 I253 e254 => ?_)
        refine jrun_i (pc := 878) (jRunV hX s_L_105 (ci := 7) (T := TX7) (N := 20) (As := [ji (xs ((v1 + (1 : Int32))).toNatClampNeg), ji (xs ((v1 + (2 : Int32))).toNatClampNeg)]) (rest := [ji y247]) rfl (by decide) (C_X7_value Y hz0 164 sh_mod (xs ((v1 + (1 : Int32))).toNatClampNeg) (xs ((v1 + (2 : Int32))).toNatClampNeg) I248 L3 y252 I253 e254) sh_mod rfl rfl ⟨by decide, by decide⟩ ⟨Nat.le_of_ble_eq_true rfl, Nat.le_of_ble_eq_true rfl⟩ (Nat.le_of_ble_eq_true rfl) dL_law_878) ?_
        refine J_icmp_eq (pc := 881) hX (tgt := 1488) (by decide) dL_law_881 (fun h255 => ?_) (fun h255 => ?_)
        · exact hk9 I253 L3
        · refine J_iconst (pc := 884) hX (v := (0 : Int32)) (by decide) dL_law_884 ?_
          exact J_none
      refine J_swc (21 : Int32) (fun h256 => ?_) (fun h256 => ?_)
      · refine J_swIn (pc := 33) hX (tgt := 886) (off := 853) (21 : Int32) h256 (by decide) (by decide) rfl (by decide) dL_law_33 ?_
        refine J_aload_n (pc := 886) hX 1 rfl dL_law_886 ?_
        refine J_aload_nE (pc := 887) hX 0 rfl dL_law_887 ?_
        refine J_iload_n (pc := 888) hX 3 rfl dL_law_888 ?_
        refine J_iconst (pc := 889) hX (v := (1 : Int32)) (by decide) dL_law_889 ?_
        refine J_iadd (pc := 890) hX dL_law_890 ?_
        refine J_sld (pc := 891) hX hS hb hbA dL_law_891 (fun h257 => ?_)
        refine J_call2 (fun y258 I259 e260 => ?_)
        refine jrun_i (pc := 892) (jRunV hX s_L_106 (ci := 6) (T := TX6) (N := 8) (As := [ji (xs ((v1 + (1 : Int32))).toNatClampNeg)]) (rest := []) rfl (by decide) (C_X6_where Y hz0 1 sh_root (xs ((v1 + (1 : Int32))).toNatClampNeg) I2 L3 y258 I259 e260) sh_root rfl rfl ⟨by decide, by decide⟩ ⟨Nat.le_of_ble_eq_true rfl, Nat.le_of_ble_eq_true rfl⟩ (Nat.le_of_ble_eq_true rfl) dL_law_892) ?_
        refine J_aload_n (pc := 895) hX 2 rfl dL_law_895 ?_
        refine J_aload_nE (pc := 896) hX 0 rfl dL_law_896 ?_
        refine J_iload_n (pc := 897) hX 3 rfl dL_law_897 ?_
        refine J_iconst (pc := 898) hX (v := (1 : Int32)) (by decide) dL_law_898 ?_
        refine J_iadd (pc := 899) hX dL_law_899 ?_
        refine J_sld (pc := 900) hX hS hb hbA dL_law_900 (fun h261 => ?_)
        refine J_call2 (fun y262 I263 e264 => ?_)
        refine jrun_i (pc := 901) (jRunV hX s_L_109 (ci := 7) (T := TX7) (N := 20) (As := [ji (xs ((v1 + (1 : Int32))).toNatClampNeg)]) (rest := [ji y258]) rfl (by decide) (C_X7_where Y hz0 164 sh_mod (xs ((v1 + (1 : Int32))).toNatClampNeg) I259 L3 y262 I263 e264) sh_mod rfl rfl ⟨by decide, by decide⟩ ⟨Nat.le_of_ble_eq_true rfl, Nat.le_of_ble_eq_true rfl⟩ (Nat.le_of_ble_eq_true rfl) dL_law_901) ?_
        refine J_icmp_eq (pc := 904) hX (tgt := 1488) (by decide) dL_law_904 (fun h265 => ?_) (fun h265 => ?_)
        · exact hk9 I263 L3
        · refine J_iconst (pc := 907) hX (v := (0 : Int32)) (by decide) dL_law_907 ?_
          exact J_none
      refine J_swc (22 : Int32) (fun h266 => ?_) (fun h266 => ?_)
      · refine J_swIn (pc := 33) hX (tgt := 909) (off := 876) (22 : Int32) h266 (by decide) (by decide) rfl (by decide) dL_law_33 ?_
        refine J_aload_n (pc := 909) hX 1 rfl dL_law_909 ?_
        refine J_aload_nE (pc := 910) hX 0 rfl dL_law_910 ?_
        refine J_iload_n (pc := 911) hX 3 rfl dL_law_911 ?_
        refine J_iconst (pc := 912) hX (v := (1 : Int32)) (by decide) dL_law_912 ?_
        refine J_iadd (pc := 913) hX dL_law_913 ?_
        refine J_sld (pc := 914) hX hS hb hbA dL_law_914 (fun h267 => ?_)
        refine J_call2 (fun y268 I269 e270 => ?_)
        refine jrun_l (pc := 915) (jRunV hX s_L_110 (ci := 6) (T := TX6) (N := 8) (As := [ji (xs ((v1 + (1 : Int32))).toNatClampNeg)]) (rest := []) rfl (by decide) (C_X6_pages Y hz0 1 sh_root (xs ((v1 + (1 : Int32))).toNatClampNeg) I2 L3 y268 I269 e270) sh_root rfl rfl ⟨by decide, by decide⟩ ⟨Nat.le_of_ble_eq_true rfl, Nat.le_of_ble_eq_true rfl⟩ (Nat.le_of_ble_eq_true rfl) dL_law_915) ?_
        refine J_aload_n (pc := 918) hX 2 rfl dL_law_918 ?_
        refine J_aload_nE (pc := 919) hX 0 rfl dL_law_919 ?_
        refine J_iload_n (pc := 920) hX 3 rfl dL_law_920 ?_
        refine J_iconst (pc := 921) hX (v := (1 : Int32)) (by decide) dL_law_921 ?_
        refine J_iadd (pc := 922) hX dL_law_922 ?_
        refine J_sld (pc := 923) hX hS hb hbA dL_law_923 (fun h271 => ?_)
        refine J_call2 (fun y272 I273 e274 => ?_)
        refine jrun_l (pc := 924) (jRunV hX s_L_114 (ci := 7) (T := TX7) (N := 20) (As := [ji (xs ((v1 + (1 : Int32))).toNatClampNeg)]) (rest := [jl y268]) rfl (by decide) (C_X7_pages Y hz0 164 sh_mod (xs ((v1 + (1 : Int32))).toNatClampNeg) I269 L3 y272 I273 e274) sh_mod rfl rfl ⟨by decide, by decide⟩ ⟨Nat.le_of_ble_eq_true rfl, Nat.le_of_ble_eq_true rfl⟩ (Nat.le_of_ble_eq_true rfl) dL_law_924) ?_
        refine J_lcmp (pc := 927) hX dL_law_927 ?_
        refine J_if_eq (pc := 928) hX (tgt := 1488) (by decide) dL_law_928 (fun h275 => ?_) (fun h275 => ?_)
        · exact hk9 I273 L3
        · refine J_iconst (pc := 931) hX (v := (0 : Int32)) (by decide) dL_law_931 ?_
          exact J_none
      refine J_swc (23 : Int32) (fun h276 => ?_) (fun h276 => ?_)
      · refine J_swIn (pc := 33) hX (tgt := 933) (off := 900) (23 : Int32) h276 (by decide) (by decide) rfl (by decide) dL_law_33 ?_
        refine J_aload_n (pc := 933) hX 1 rfl dL_law_933 ?_
        refine J_aload_nE (pc := 934) hX 0 rfl dL_law_934 ?_
        refine J_iload_n (pc := 935) hX 3 rfl dL_law_935 ?_
        refine J_iconst (pc := 936) hX (v := (1 : Int32)) (by decide) dL_law_936 ?_
        refine J_iadd (pc := 937) hX dL_law_937 ?_
        refine J_sld (pc := 938) hX hS hb hbA dL_law_938 (fun h277 => ?_)
        refine J_call2 (fun y278 I279 e280 => ?_)
        refine jrun_l (pc := 939) (jRunV hX s_L_115 (ci := 6) (T := TX6) (N := 8) (As := [ji (xs ((v1 + (1 : Int32))).toNatClampNeg)]) (rest := []) rfl (by decide) (C_X6_differ Y hz0 1 sh_root (xs ((v1 + (1 : Int32))).toNatClampNeg) I2 L3 y278 I279 e280) sh_root rfl rfl ⟨by decide, by decide⟩ ⟨Nat.le_of_ble_eq_true rfl, Nat.le_of_ble_eq_true rfl⟩ (Nat.le_of_ble_eq_true rfl) dL_law_939) ?_
        refine J_aload_n (pc := 942) hX 2 rfl dL_law_942 ?_
        refine J_aload_nE (pc := 943) hX 0 rfl dL_law_943 ?_
        refine J_iload_n (pc := 944) hX 3 rfl dL_law_944 ?_
        refine J_iconst (pc := 945) hX (v := (1 : Int32)) (by decide) dL_law_945 ?_
        refine J_iadd (pc := 946) hX dL_law_946 ?_
        refine J_sld (pc := 947) hX hS hb hbA dL_law_947 (fun h281 => ?_)
        refine J_call2 (fun y282 I283 e284 => ?_)
        refine jrun_l (pc := 948) (jRunV hX s_L_118 (ci := 7) (T := TX7) (N := 20) (As := [ji (xs ((v1 + (1 : Int32))).toNatClampNeg)]) (rest := [jl y278]) rfl (by decide) (C_X7_differ Y hz0 164 sh_mod (xs ((v1 + (1 : Int32))).toNatClampNeg) I279 L3 y282 I283 e284) sh_mod rfl rfl ⟨by decide, by decide⟩ ⟨Nat.le_of_ble_eq_true rfl, Nat.le_of_ble_eq_true rfl⟩ (Nat.le_of_ble_eq_true rfl) dL_law_948) ?_
        refine J_lcmp (pc := 951) hX dL_law_951 ?_
        refine J_if_eq (pc := 952) hX (tgt := 1488) (by decide) dL_law_952 (fun h285 => ?_) (fun h285 => ?_)
        · exact hk9 I283 L3
        · refine J_iconst (pc := 955) hX (v := (0 : Int32)) (by decide) dL_law_955 ?_
          exact J_none
      refine J_swc (24 : Int32) (fun h286 => ?_) (fun h286 => ?_)
      · refine J_swIn (pc := 33) hX (tgt := 957) (off := 924) (24 : Int32) h286 (by decide) (by decide) rfl (by decide) dL_law_33 ?_
        refine J_aload_n (pc := 957) hX 1 rfl dL_law_957 ?_
        refine J_call1 (fun y287 e288 => ?_)
        refine jrun_i (pc := 958) (jRunV hX s_L_119 (ci := 6) (T := TX6) (N := 8) (As := []) (rest := []) rfl (by decide) (C_X6_kept Y hz0 1 sh_root I2 L3 y287 e288) sh_root rfl rfl ⟨by decide, by decide⟩ ⟨Nat.le_of_ble_eq_true rfl, Nat.le_of_ble_eq_true rfl⟩ (Nat.le_of_ble_eq_true rfl) dL_law_958) ?_
        refine J_aload_n (pc := 961) hX 2 rfl dL_law_961 ?_
        refine J_call1 (fun y289 e290 => ?_)
        refine jrun_i (pc := 962) (jRunV hX s_L_122 (ci := 7) (T := TX7) (N := 20) (As := []) (rest := [ji y287]) rfl (by decide) (C_X7_kept Y hz0 164 sh_mod I2 L3 y289 e290) sh_mod rfl rfl ⟨by decide, by decide⟩ ⟨Nat.le_of_ble_eq_true rfl, Nat.le_of_ble_eq_true rfl⟩ (Nat.le_of_ble_eq_true rfl) dL_law_962) ?_
        refine J_icmp_eq (pc := 965) hX (tgt := 1488) (by decide) dL_law_965 (fun h291 => ?_) (fun h291 => ?_)
        · exact hk9 I2 L3
        · refine J_iconst (pc := 968) hX (v := (0 : Int32)) (by decide) dL_law_968 ?_
          exact J_none
      refine J_swc (25 : Int32) (fun h292 => ?_) (fun h292 => ?_)
      · refine J_swIn (pc := 33) hX (tgt := 970) (off := 937) (25 : Int32) h292 (by decide) (by decide) rfl (by decide) dL_law_33 ?_
        refine J_aload_n (pc := 970) hX 1 rfl dL_law_970 ?_
        refine J_aload_nE (pc := 971) hX 0 rfl dL_law_971 ?_
        refine J_iload_n (pc := 972) hX 3 rfl dL_law_972 ?_
        refine J_iconst (pc := 973) hX (v := (1 : Int32)) (by decide) dL_law_973 ?_
        refine J_iadd (pc := 974) hX dL_law_974 ?_
        refine J_sld (pc := 975) hX hS hb hbA dL_law_975 (fun h293 => ?_)
        refine J_aload_nE (pc := 976) hX 0 rfl dL_law_976 ?_
        refine J_iload_n (pc := 977) hX 3 rfl dL_law_977 ?_
        refine J_iconst (pc := 978) hX (v := (2 : Int32)) (by decide) dL_law_978 ?_
        refine J_iadd (pc := 979) hX dL_law_979 ?_
        refine J_sld (pc := 980) hX hS hb hbA dL_law_980 (fun h294 => ?_)
        refine J_call2 (fun y295 I296 e297 => ?_)
        refine jrun_i (pc := 981) (jRunV hX s_L_123 (ci := 6) (T := TX6) (N := 8) (As := [ji (xs ((v1 + (1 : Int32))).toNatClampNeg), ji (xs ((v1 + (2 : Int32))).toNatClampNeg)]) (rest := []) rfl (by decide) (C_X6_would Y hz0 1 sh_root (xs ((v1 + (1 : Int32))).toNatClampNeg) (xs ((v1 + (2 : Int32))).toNatClampNeg) I2 L3 y295 I296 e297) sh_root rfl rfl ⟨by decide, by decide⟩ ⟨Nat.le_of_ble_eq_true rfl, Nat.le_of_ble_eq_true rfl⟩ (Nat.le_of_ble_eq_true rfl) dL_law_981) ?_
        refine J_aload_n (pc := 984) hX 2 rfl dL_law_984 ?_
        refine J_aload_nE (pc := 985) hX 0 rfl dL_law_985 ?_
        refine J_iload_n (pc := 986) hX 3 rfl dL_law_986 ?_
        refine J_iconst (pc := 987) hX (v := (1 : Int32)) (by decide) dL_law_987 ?_
        refine J_iadd (pc := 988) hX dL_law_988 ?_
        refine J_sld (pc := 989) hX hS hb hbA dL_law_989 (fun h298 => ?_)
        refine J_aload_nE (pc := 990) hX 0 rfl dL_law_990 ?_
        refine J_iload_n (pc := 991) hX 3 rfl dL_law_991 ?_
        refine J_iconst (pc := 992) hX (v := (2 : Int32)) (by decide) dL_law_992 ?_
        refine J_iadd (pc := 993) hX dL_law_993 ?_
        refine J_sld (pc := 994) hX hS hb hbA dL_law_994 (fun h299 => ?_)
        refine J_call2 (fun y300 I301 e302 => ?_)
        refine jrun_i (pc := 995) (jRunV hX s_L_126 (ci := 7) (T := TX7) (N := 20) (As := [ji (xs ((v1 + (1 : Int32))).toNatClampNeg), ji (xs ((v1 + (2 : Int32))).toNatClampNeg)]) (rest := [ji y295]) rfl (by decide) (C_X7_would Y hz0 164 sh_mod (xs ((v1 + (1 : Int32))).toNatClampNeg) (xs ((v1 + (2 : Int32))).toNatClampNeg) I296 L3 y300 I301 e302) sh_mod rfl rfl ⟨by decide, by decide⟩ ⟨Nat.le_of_ble_eq_true rfl, Nat.le_of_ble_eq_true rfl⟩ (Nat.le_of_ble_eq_true rfl) dL_law_995) ?_
        refine J_icmp_eq (pc := 998) hX (tgt := 1488) (by decide) dL_law_998 (fun h303 => ?_) (fun h303 => ?_)
        · exact hk9 I301 L3
        · refine J_iconst (pc := 1001) hX (v := (0 : Int32)) (by decide) dL_law_1001 ?_
          exact J_none
      refine J_swc (26 : Int32) (fun h304 => ?_) (fun h304 => ?_)
      · refine J_swIn (pc := 33) hX (tgt := 1003) (off := 970) (26 : Int32) h304 (by decide) (by decide) rfl (by decide) dL_law_33 ?_
        refine J_aload_n (pc := 1003) hX 1 rfl dL_law_1003 ?_
        refine J_aload_nE (pc := 1004) hX 0 rfl dL_law_1004 ?_
        refine J_iload_n (pc := 1005) hX 3 rfl dL_law_1005 ?_
        refine J_iconst (pc := 1006) hX (v := (1 : Int32)) (by decide) dL_law_1006 ?_
        refine J_iadd (pc := 1007) hX dL_law_1007 ?_
        refine J_sld (pc := 1008) hX hS hb hbA dL_law_1008 (fun h305 => ?_)
        refine J_aload_nE (pc := 1009) hX 0 rfl dL_law_1009 ?_
        refine J_iload_n (pc := 1010) hX 3 rfl dL_law_1010 ?_
        refine J_iconst (pc := 1011) hX (v := (2 : Int32)) (by decide) dL_law_1011 ?_
        refine J_iadd (pc := 1012) hX dL_law_1012 ?_
        refine J_sld (pc := 1013) hX hS hb hbA dL_law_1013 (fun h306 => ?_)
        refine J_aload_nE (pc := 1014) hX 0 rfl dL_law_1014 ?_
        refine J_iload_n (pc := 1015) hX 3 rfl dL_law_1015 ?_
        refine J_iconst (pc := 1016) hX (v := (3 : Int32)) (by decide) dL_law_1016 ?_
        refine J_iadd (pc := 1017) hX dL_law_1017 ?_
        refine J_sld (pc := 1018) hX hS hb hbA dL_law_1018 (fun h307 => ?_)
        refine J_call2 (fun y308 I309 e310 => ?_)
        refine jrun_i (pc := 1019) (jRunV hX s_L_127 (ci := 6) (T := TX6) (N := 8) (As := [ji (xs ((v1 + (1 : Int32))).toNatClampNeg), ji (xs ((v1 + (2 : Int32))).toNatClampNeg), ji (xs ((v1 + (3 : Int32))).toNatClampNeg)]) (rest := []) rfl (by decide) (C_X6_plan Y hz0 1 sh_root (xs ((v1 + (1 : Int32))).toNatClampNeg) (xs ((v1 + (2 : Int32))).toNatClampNeg) (xs ((v1 + (3 : Int32))).toNatClampNeg) I2 L3 y308 I309 e310) sh_root rfl rfl ⟨by decide, by decide⟩ ⟨Nat.le_of_ble_eq_true rfl, Nat.le_of_ble_eq_true rfl⟩ (Nat.le_of_ble_eq_true rfl) dL_law_1019) ?_
        refine J_aload_n (pc := 1022) hX 2 rfl dL_law_1022 ?_
        refine J_aload_nE (pc := 1023) hX 0 rfl dL_law_1023 ?_
        refine J_iload_n (pc := 1024) hX 3 rfl dL_law_1024 ?_
        refine J_iconst (pc := 1025) hX (v := (1 : Int32)) (by decide) dL_law_1025 ?_
        refine J_iadd (pc := 1026) hX dL_law_1026 ?_
        refine J_sld (pc := 1027) hX hS hb hbA dL_law_1027 (fun h311 => ?_)
        refine J_aload_nE (pc := 1028) hX 0 rfl dL_law_1028 ?_
        refine J_iload_n (pc := 1029) hX 3 rfl dL_law_1029 ?_
        refine J_iconst (pc := 1030) hX (v := (2 : Int32)) (by decide) dL_law_1030 ?_
        refine J_iadd (pc := 1031) hX dL_law_1031 ?_
        refine J_sld (pc := 1032) hX hS hb hbA dL_law_1032 (fun h312 => ?_)
        refine J_aload_nE (pc := 1033) hX 0 rfl dL_law_1033 ?_
        refine J_iload_n (pc := 1034) hX 3 rfl dL_law_1034 ?_
        refine J_iconst (pc := 1035) hX (v := (3 : Int32)) (by decide) dL_law_1035 ?_
        refine J_iadd (pc := 1036) hX dL_law_1036 ?_
        refine J_sld (pc := 1037) hX hS hb hbA dL_law_1037 (fun h313 => ?_)
        refine J_call2 (fun y314 I315 e316 => ?_)
        refine jrun_i (pc := 1038) (jRunV hX s_L_130 (ci := 7) (T := TX7) (N := 20) (As := [ji (xs ((v1 + (1 : Int32))).toNatClampNeg), ji (xs ((v1 + (2 : Int32))).toNatClampNeg), ji (xs ((v1 + (3 : Int32))).toNatClampNeg)]) (rest := [ji y308]) rfl (by decide) (C_X7_plan Y hz0 164 sh_mod (xs ((v1 + (1 : Int32))).toNatClampNeg) (xs ((v1 + (2 : Int32))).toNatClampNeg) (xs ((v1 + (3 : Int32))).toNatClampNeg) I309 L3 y314 I315 e316) sh_mod rfl rfl ⟨by decide, by decide⟩ ⟨Nat.le_of_ble_eq_true rfl, Nat.le_of_ble_eq_true rfl⟩ (Nat.le_of_ble_eq_true rfl) dL_law_1038) ?_
        refine J_icmp_eq (pc := 1041) hX (tgt := 1488) (by decide) dL_law_1041 (fun h317 => ?_) (fun h317 => ?_)
        · exact hk9 I315 L3
        · refine J_iconst (pc := 1044) hX (v := (0 : Int32)) (by decide) dL_law_1044 ?_
          exact J_none
      refine J_swc (27 : Int32) (fun h318 => ?_) (fun h318 => ?_)
      · refine J_swIn (pc := 33) hX (tgt := 1046) (off := 1013) (27 : Int32) h318 (by decide) (by decide) rfl (by decide) dL_law_33 ?_
        refine J_aload_n (pc := 1046) hX 1 rfl dL_law_1046 ?_
        refine J_aload_nE (pc := 1047) hX 0 rfl dL_law_1047 ?_
        refine J_iload_n (pc := 1048) hX 3 rfl dL_law_1048 ?_
        refine J_iconst (pc := 1049) hX (v := (1 : Int32)) (by decide) dL_law_1049 ?_
        refine J_iadd (pc := 1050) hX dL_law_1050 ?_
        refine J_sld (pc := 1051) hX hS hb hbA dL_law_1051 (fun h319 => ?_)
        refine J_aload_nE (pc := 1052) hX 0 rfl dL_law_1052 ?_
        refine J_iload_n (pc := 1053) hX 3 rfl dL_law_1053 ?_
        refine J_iconst (pc := 1054) hX (v := (2 : Int32)) (by decide) dL_law_1054 ?_
        refine J_iadd (pc := 1055) hX dL_law_1055 ?_
        refine J_sld (pc := 1056) hX hS hb hbA dL_law_1056 (fun h320 => ?_)
        refine J_aload_nE (pc := 1057) hX 0 rfl dL_law_1057 ?_
        refine J_iload_n (pc := 1058) hX 3 rfl dL_law_1058 ?_
        refine J_iconst (pc := 1059) hX (v := (3 : Int32)) (by decide) dL_law_1059 ?_
        refine J_iadd (pc := 1060) hX dL_law_1060 ?_
        refine J_sld (pc := 1061) hX hS hb hbA dL_law_1061 (fun h321 => ?_)
        refine J_call2 (fun y322 I323 e324 => ?_)
        refine jrun_i (pc := 1062) (jRunV hX s_L_131 (ci := 6) (T := TX6) (N := 8) (As := [ji (xs ((v1 + (1 : Int32))).toNatClampNeg), ji (xs ((v1 + (2 : Int32))).toNatClampNeg), ji (xs ((v1 + (3 : Int32))).toNatClampNeg)]) (rest := []) rfl (by decide) (C_X6_rule Y hz0 1 sh_root (xs ((v1 + (1 : Int32))).toNatClampNeg) (xs ((v1 + (2 : Int32))).toNatClampNeg) (xs ((v1 + (3 : Int32))).toNatClampNeg) I2 L3 y322 I323 e324) sh_root rfl rfl ⟨by decide, by decide⟩ ⟨Nat.le_of_ble_eq_true rfl, Nat.le_of_ble_eq_true rfl⟩ (Nat.le_of_ble_eq_true rfl) dL_law_1062) ?_
        refine J_aload_n (pc := 1065) hX 2 rfl dL_law_1065 ?_
        refine J_aload_nE (pc := 1066) hX 0 rfl dL_law_1066 ?_
        refine J_iload_n (pc := 1067) hX 3 rfl dL_law_1067 ?_
        refine J_iconst (pc := 1068) hX (v := (1 : Int32)) (by decide) dL_law_1068 ?_
        refine J_iadd (pc := 1069) hX dL_law_1069 ?_
        refine J_sld (pc := 1070) hX hS hb hbA dL_law_1070 (fun h325 => ?_)
        refine J_aload_nE (pc := 1071) hX 0 rfl dL_law_1071 ?_
        refine J_iload_n (pc := 1072) hX 3 rfl dL_law_1072 ?_
        refine J_iconst (pc := 1073) hX (v := (2 : Int32)) (by decide) dL_law_1073 ?_
        refine J_iadd (pc := 1074) hX dL_law_1074 ?_
        refine J_sld (pc := 1075) hX hS hb hbA dL_law_1075 (fun h326 => ?_)
        refine J_aload_nE (pc := 1076) hX 0 rfl dL_law_1076 ?_
        refine J_iload_n (pc := 1077) hX 3 rfl dL_law_1077 ?_
        refine J_iconst (pc := 1078) hX (v := (3 : Int32)) (by decide) dL_law_1078 ?_
        refine J_iadd (pc := 1079) hX dL_law_1079 ?_
        refine J_sld (pc := 1080) hX hS hb hbA dL_law_1080 (fun h327 => ?_)
        refine J_call2 (fun y328 I329 e330 => ?_)
        refine jrun_i (pc := 1081) (jRunV hX s_L_134 (ci := 7) (T := TX7) (N := 20) (As := [ji (xs ((v1 + (1 : Int32))).toNatClampNeg), ji (xs ((v1 + (2 : Int32))).toNatClampNeg), ji (xs ((v1 + (3 : Int32))).toNatClampNeg)]) (rest := [ji y322]) rfl (by decide) (C_X7_rule Y hz0 164 sh_mod (xs ((v1 + (1 : Int32))).toNatClampNeg) (xs ((v1 + (2 : Int32))).toNatClampNeg) (xs ((v1 + (3 : Int32))).toNatClampNeg) I323 L3 y328 I329 e330) sh_mod rfl rfl ⟨by decide, by decide⟩ ⟨Nat.le_of_ble_eq_true rfl, Nat.le_of_ble_eq_true rfl⟩ (Nat.le_of_ble_eq_true rfl) dL_law_1081) ?_
        refine J_icmp_eq (pc := 1084) hX (tgt := 1488) (by decide) dL_law_1084 (fun h331 => ?_) (fun h331 => ?_)
        · exact hk9 I329 L3
        · refine J_iconst (pc := 1087) hX (v := (0 : Int32)) (by decide) dL_law_1087 ?_
          exact J_none
      refine J_swc (28 : Int32) (fun h332 => ?_) (fun h332 => ?_)
      · refine J_swIn (pc := 33) hX (tgt := 1089) (off := 1056) (28 : Int32) h332 (by decide) (by decide) rfl (by decide) dL_law_33 ?_
        refine J_aload_n (pc := 1089) hX 1 rfl dL_law_1089 ?_
        refine J_aload_nE (pc := 1090) hX 0 rfl dL_law_1090 ?_
        refine J_iload_n (pc := 1091) hX 3 rfl dL_law_1091 ?_
        refine J_iconst (pc := 1092) hX (v := (1 : Int32)) (by decide) dL_law_1092 ?_
        refine J_iadd (pc := 1093) hX dL_law_1093 ?_
        refine J_sld (pc := 1094) hX hS hb hbA dL_law_1094 (fun h333 => ?_)
        refine J_aload_nE (pc := 1095) hX 0 rfl dL_law_1095 ?_
        refine J_iload_n (pc := 1096) hX 3 rfl dL_law_1096 ?_
        refine J_iconst (pc := 1097) hX (v := (2 : Int32)) (by decide) dL_law_1097 ?_
        refine J_iadd (pc := 1098) hX dL_law_1098 ?_
        refine J_sld (pc := 1099) hX hS hb hbA dL_law_1099 (fun h334 => ?_)
        refine J_aload_nE (pc := 1100) hX 0 rfl dL_law_1100 ?_
        refine J_iload_n (pc := 1101) hX 3 rfl dL_law_1101 ?_
        refine J_iconst (pc := 1102) hX (v := (3 : Int32)) (by decide) dL_law_1102 ?_
        refine J_iadd (pc := 1103) hX dL_law_1103 ?_
        refine J_sld (pc := 1104) hX hS hb hbA dL_law_1104 (fun h335 => ?_)
        refine J_aload_nE (pc := 1105) hX 0 rfl dL_law_1105 ?_
        refine J_iload_n (pc := 1106) hX 3 rfl dL_law_1106 ?_
        refine J_iconst (pc := 1107) hX (v := (4 : Int32)) (by decide) dL_law_1107 ?_
        refine J_iadd (pc := 1108) hX dL_law_1108 ?_
        refine J_sld (pc := 1109) hX hS hb hbA dL_law_1109 (fun h336 => ?_)
        refine J_call2 (fun y337 I338 e339 => ?_)
        refine jrun_i (pc := 1110) (jRunV hX s_L_135 (ci := 6) (T := TX6) (N := 8) (As := [ji (xs ((v1 + (1 : Int32))).toNatClampNeg), ji (xs ((v1 + (2 : Int32))).toNatClampNeg), ji (xs ((v1 + (3 : Int32))).toNatClampNeg), ji (xs ((v1 + (4 : Int32))).toNatClampNeg)]) (rest := []) rfl (by decide) (C_X6_size Y hz0 1 sh_root (xs ((v1 + (1 : Int32))).toNatClampNeg) (xs ((v1 + (2 : Int32))).toNatClampNeg) (xs ((v1 + (3 : Int32))).toNatClampNeg) (xs ((v1 + (4 : Int32))).toNatClampNeg) I2 L3 y337 I338 e339) sh_root rfl rfl ⟨by decide, by decide⟩ ⟨Nat.le_of_ble_eq_true rfl, Nat.le_of_ble_eq_true rfl⟩ (Nat.le_of_ble_eq_true rfl) dL_law_1110) ?_
        refine J_aload_n (pc := 1113) hX 2 rfl dL_law_1113 ?_
        refine J_aload_nE (pc := 1114) hX 0 rfl dL_law_1114 ?_
        refine J_iload_n (pc := 1115) hX 3 rfl dL_law_1115 ?_
        refine J_iconst (pc := 1116) hX (v := (1 : Int32)) (by decide) dL_law_1116 ?_
        refine J_iadd (pc := 1117) hX dL_law_1117 ?_
        refine J_sld (pc := 1118) hX hS hb hbA dL_law_1118 (fun h340 => ?_)
        refine J_aload_nE (pc := 1119) hX 0 rfl dL_law_1119 ?_
        refine J_iload_n (pc := 1120) hX 3 rfl dL_law_1120 ?_
        refine J_iconst (pc := 1121) hX (v := (2 : Int32)) (by decide) dL_law_1121 ?_
        refine J_iadd (pc := 1122) hX dL_law_1122 ?_
        refine J_sld (pc := 1123) hX hS hb hbA dL_law_1123 (fun h341 => ?_)
        refine J_aload_nE (pc := 1124) hX 0 rfl dL_law_1124 ?_
        refine J_iload_n (pc := 1125) hX 3 rfl dL_law_1125 ?_
        refine J_iconst (pc := 1126) hX (v := (3 : Int32)) (by decide) dL_law_1126 ?_
        refine J_iadd (pc := 1127) hX dL_law_1127 ?_
        refine J_sld (pc := 1128) hX hS hb hbA dL_law_1128 (fun h342 => ?_)
        refine J_aload_nE (pc := 1129) hX 0 rfl dL_law_1129 ?_
        refine J_iload_n (pc := 1130) hX 3 rfl dL_law_1130 ?_
        refine J_iconst (pc := 1131) hX (v := (4 : Int32)) (by decide) dL_law_1131 ?_
        refine J_iadd (pc := 1132) hX dL_law_1132 ?_
        refine J_sld (pc := 1133) hX hS hb hbA dL_law_1133 (fun h343 => ?_)
        refine J_call2 (fun y344 I345 e346 => ?_)
        refine jrun_i (pc := 1134) (jRunV hX s_L_139 (ci := 7) (T := TX7) (N := 20) (As := [ji (xs ((v1 + (1 : Int32))).toNatClampNeg), ji (xs ((v1 + (2 : Int32))).toNatClampNeg), ji (xs ((v1 + (3 : Int32))).toNatClampNeg), ji (xs ((v1 + (4 : Int32))).toNatClampNeg)]) (rest := [ji y337]) rfl (by decide) (C_X7_size Y hz0 164 sh_mod (xs ((v1 + (1 : Int32))).toNatClampNeg) (xs ((v1 + (2 : Int32))).toNatClampNeg) (xs ((v1 + (3 : Int32))).toNatClampNeg) (xs ((v1 + (4 : Int32))).toNatClampNeg) I338 L3 y344 I345 e346) sh_mod rfl rfl ⟨by decide, by decide⟩ ⟨Nat.le_of_ble_eq_true rfl, Nat.le_of_ble_eq_true rfl⟩ (Nat.le_of_ble_eq_true rfl) dL_law_1134) ?_
        refine J_icmp_eq (pc := 1137) hX (tgt := 1488) (by decide) dL_law_1137 (fun h347 => ?_) (fun h347 => ?_)
        · exact hk9 I345 L3
        · refine J_iconst (pc := 1140) hX (v := (0 : Int32)) (by decide) dL_law_1140 ?_
          exact J_none
      refine J_swc (29 : Int32) (fun h348 => ?_) (fun h348 => ?_)
      · refine J_swIn (pc := 33) hX (tgt := 1142) (off := 1109) (29 : Int32) h348 (by decide) (by decide) rfl (by decide) dL_law_33 ?_
        refine J_aload_n (pc := 1142) hX 1 rfl dL_law_1142 ?_
        refine J_aload_nE (pc := 1143) hX 0 rfl dL_law_1143 ?_
        refine J_iload_n (pc := 1144) hX 3 rfl dL_law_1144 ?_
        refine J_iconst (pc := 1145) hX (v := (1 : Int32)) (by decide) dL_law_1145 ?_
        refine J_iadd (pc := 1146) hX dL_law_1146 ?_
        refine J_sld (pc := 1147) hX hS hb hbA dL_law_1147 (fun h349 => ?_)
        refine J_aload_nE (pc := 1148) hX 0 rfl dL_law_1148 ?_
        refine J_iload_n (pc := 1149) hX 3 rfl dL_law_1149 ?_
        refine J_iconst (pc := 1150) hX (v := (2 : Int32)) (by decide) dL_law_1150 ?_
        refine J_iadd (pc := 1151) hX dL_law_1151 ?_
        refine J_sld (pc := 1152) hX hS hb hbA dL_law_1152 (fun h350 => ?_)
        refine J_call2 (fun y351 I352 e353 => ?_)
        refine jrun_i (pc := 1153) (jRunV hX s_L_140 (ci := 6) (T := TX6) (N := 8) (As := [ji (xs ((v1 + (1 : Int32))).toNatClampNeg), ji (xs ((v1 + (2 : Int32))).toNatClampNeg)]) (rest := []) rfl (by decide) (C_X6_modes Y hz0 1 sh_root (xs ((v1 + (1 : Int32))).toNatClampNeg) (xs ((v1 + (2 : Int32))).toNatClampNeg) I2 L3 y351 I352 e353) sh_root rfl rfl ⟨by decide, by decide⟩ ⟨Nat.le_of_ble_eq_true rfl, Nat.le_of_ble_eq_true rfl⟩ (Nat.le_of_ble_eq_true rfl) dL_law_1153) ?_
        refine J_aload_n (pc := 1156) hX 2 rfl dL_law_1156 ?_
        refine J_aload_nE (pc := 1157) hX 0 rfl dL_law_1157 ?_
        refine J_iload_n (pc := 1158) hX 3 rfl dL_law_1158 ?_
        refine J_iconst (pc := 1159) hX (v := (1 : Int32)) (by decide) dL_law_1159 ?_
        refine J_iadd (pc := 1160) hX dL_law_1160 ?_
        refine J_sld (pc := 1161) hX hS hb hbA dL_law_1161 (fun h354 => ?_)
        refine J_aload_nE (pc := 1162) hX 0 rfl dL_law_1162 ?_
        refine J_iload_n (pc := 1163) hX 3 rfl dL_law_1163 ?_
        refine J_iconst (pc := 1164) hX (v := (2 : Int32)) (by decide) dL_law_1164 ?_
        refine J_iadd (pc := 1165) hX dL_law_1165 ?_
        refine J_sld (pc := 1166) hX hS hb hbA dL_law_1166 (fun h355 => ?_)
        refine J_call2 (fun y356 I357 e358 => ?_)
        refine jrun_i (pc := 1167) (jRunV hX s_L_143 (ci := 7) (T := TX7) (N := 20) (As := [ji (xs ((v1 + (1 : Int32))).toNatClampNeg), ji (xs ((v1 + (2 : Int32))).toNatClampNeg)]) (rest := [ji y351]) rfl (by decide) (C_X7_modes Y hz0 164 sh_mod (xs ((v1 + (1 : Int32))).toNatClampNeg) (xs ((v1 + (2 : Int32))).toNatClampNeg) I352 L3 y356 I357 e358) sh_mod rfl rfl ⟨by decide, by decide⟩ ⟨Nat.le_of_ble_eq_true rfl, Nat.le_of_ble_eq_true rfl⟩ (Nat.le_of_ble_eq_true rfl) dL_law_1167) ?_
        refine J_icmp_eq (pc := 1170) hX (tgt := 1488) (by decide) dL_law_1170 (fun h359 => ?_) (fun h359 => ?_)
        · exact hk9 I357 L3
        · refine J_iconst (pc := 1173) hX (v := (0 : Int32)) (by decide) dL_law_1173 ?_
          exact J_none
      refine J_swc (30 : Int32) (fun h360 => ?_) (fun h360 => ?_)
      · refine J_swIn (pc := 33) hX (tgt := 1175) (off := 1142) (30 : Int32) h360 (by decide) (by decide) rfl (by decide) dL_law_33 ?_
        refine J_aload_n (pc := 1175) hX 1 rfl dL_law_1175 ?_
        refine J_aload_nE (pc := 1176) hX 0 rfl dL_law_1176 ?_
        refine J_iload_n (pc := 1177) hX 3 rfl dL_law_1177 ?_
        refine J_iconst (pc := 1178) hX (v := (1 : Int32)) (by decide) dL_law_1178 ?_
        refine J_iadd (pc := 1179) hX dL_law_1179 ?_
        refine J_sld (pc := 1180) hX hS hb hbA dL_law_1180 (fun h361 => ?_)
        refine J_aload_nE (pc := 1181) hX 0 rfl dL_law_1181 ?_
        refine J_iload_n (pc := 1182) hX 3 rfl dL_law_1182 ?_
        refine J_iconst (pc := 1183) hX (v := (2 : Int32)) (by decide) dL_law_1183 ?_
        refine J_iadd (pc := 1184) hX dL_law_1184 ?_
        refine J_sld (pc := 1185) hX hS hb hbA dL_law_1185 (fun h362 => ?_)
        refine J_aload_nE (pc := 1186) hX 0 rfl dL_law_1186 ?_
        refine J_iload_n (pc := 1187) hX 3 rfl dL_law_1187 ?_
        refine J_iconst (pc := 1188) hX (v := (3 : Int32)) (by decide) dL_law_1188 ?_
        refine J_iadd (pc := 1189) hX dL_law_1189 ?_
        refine J_sld (pc := 1190) hX hS hb hbA dL_law_1190 (fun h363 => ?_)
        refine J_call2 (fun y364 I365 e366 => ?_)
        refine jrun_i (pc := 1191) (jRunV hX s_L_144 (ci := 6) (T := TX6) (N := 8) (As := [ji (xs ((v1 + (1 : Int32))).toNatClampNeg), ji (xs ((v1 + (2 : Int32))).toNatClampNeg), ji (xs ((v1 + (3 : Int32))).toNatClampNeg)]) (rest := []) rfl (by decide) (C_X6_foresight Y hz0 1 sh_root (xs ((v1 + (1 : Int32))).toNatClampNeg) (xs ((v1 + (2 : Int32))).toNatClampNeg) (xs ((v1 + (3 : Int32))).toNatClampNeg) I2 L3 y364 I365 e366) sh_root rfl rfl ⟨by decide, by decide⟩ ⟨Nat.le_of_ble_eq_true rfl, Nat.le_of_ble_eq_true rfl⟩ (Nat.le_of_ble_eq_true rfl) dL_law_1191) ?_
        refine J_aload_n (pc := 1194) hX 2 rfl dL_law_1194 ?_
        refine J_aload_nE (pc := 1195) hX 0 rfl dL_law_1195 ?_
        refine J_iload_n (pc := 1196) hX 3 rfl dL_law_1196 ?_
        refine J_iconst (pc := 1197) hX (v := (1 : Int32)) (by decide) dL_law_1197 ?_
        refine J_iadd (pc := 1198) hX dL_law_1198 ?_
        refine J_sld (pc := 1199) hX hS hb hbA dL_law_1199 (fun h367 => ?_)
        refine J_aload_nE (pc := 1200) hX 0 rfl dL_law_1200 ?_
        refine J_iload_n (pc := 1201) hX 3 rfl dL_law_1201 ?_
        refine J_iconst (pc := 1202) hX (v := (2 : Int32)) (by decide) dL_law_1202 ?_
        refine J_iadd (pc := 1203) hX dL_law_1203 ?_
        refine J_sld (pc := 1204) hX hS hb hbA dL_law_1204 (fun h368 => ?_)
        refine J_aload_nE (pc := 1205) hX 0 rfl dL_law_1205 ?_
        refine J_iload_n (pc := 1206) hX 3 rfl dL_law_1206 ?_
        refine J_iconst (pc := 1207) hX (v := (3 : Int32)) (by decide) dL_law_1207 ?_
        refine J_iadd (pc := 1208) hX dL_law_1208 ?_
        refine J_sld (pc := 1209) hX hS hb hbA dL_law_1209 (fun h369 => ?_)
        refine J_call2 (fun y370 I371 e372 => ?_)
        refine jrun_i (pc := 1210) (jRunV hX s_L_147 (ci := 7) (T := TX7) (N := 20) (As := [ji (xs ((v1 + (1 : Int32))).toNatClampNeg), ji (xs ((v1 + (2 : Int32))).toNatClampNeg), ji (xs ((v1 + (3 : Int32))).toNatClampNeg)]) (rest := [ji y364]) rfl (by decide) (C_X7_foresight Y hz0 164 sh_mod (xs ((v1 + (1 : Int32))).toNatClampNeg) (xs ((v1 + (2 : Int32))).toNatClampNeg) (xs ((v1 + (3 : Int32))).toNatClampNeg) I365 L3 y370 I371 e372) sh_mod rfl rfl ⟨by decide, by decide⟩ ⟨Nat.le_of_ble_eq_true rfl, Nat.le_of_ble_eq_true rfl⟩ (Nat.le_of_ble_eq_true rfl) dL_law_1210) ?_
        refine J_icmp_eq (pc := 1213) hX (tgt := 1488) (by decide) dL_law_1213 (fun h373 => ?_) (fun h373 => ?_)
        · exact hk9 I371 L3
        · refine J_iconst (pc := 1216) hX (v := (0 : Int32)) (by decide) dL_law_1216 ?_
          exact J_none
      refine J_swc (31 : Int32) (fun h374 => ?_) (fun h374 => ?_)
      · refine J_swIn (pc := 33) hX (tgt := 1218) (off := 1185) (31 : Int32) h374 (by decide) (by decide) rfl (by decide) dL_law_33 ?_
        refine J_aload_n (pc := 1218) hX 1 rfl dL_law_1218 ?_
        refine J_aload_nE (pc := 1219) hX 0 rfl dL_law_1219 ?_
        refine J_iload_n (pc := 1220) hX 3 rfl dL_law_1220 ?_
        refine J_iconst (pc := 1221) hX (v := (1 : Int32)) (by decide) dL_law_1221 ?_
        refine J_iadd (pc := 1222) hX dL_law_1222 ?_
        refine J_sld (pc := 1223) hX hS hb hbA dL_law_1223 (fun h375 => ?_)
        refine J_aload_nE (pc := 1224) hX 0 rfl dL_law_1224 ?_
        refine J_iload_n (pc := 1225) hX 3 rfl dL_law_1225 ?_
        refine J_iconst (pc := 1226) hX (v := (2 : Int32)) (by decide) dL_law_1226 ?_
        refine J_iadd (pc := 1227) hX dL_law_1227 ?_
        refine J_sld (pc := 1228) hX hS hb hbA dL_law_1228 (fun h376 => ?_)
        refine J_aload_nE (pc := 1229) hX 0 rfl dL_law_1229 ?_
        refine J_iload_n (pc := 1230) hX 3 rfl dL_law_1230 ?_
        refine J_iconst (pc := 1231) hX (v := (3 : Int32)) (by decide) dL_law_1231 ?_
        refine J_iadd (pc := 1232) hX dL_law_1232 ?_
        refine J_sld (pc := 1233) hX hS hb hbA dL_law_1233 (fun h377 => ?_)
        refine J_call2 (fun y378 I379 e380 => ?_)
        refine jrun_i (pc := 1234) (jRunV hX s_L_148 (ci := 6) (T := TX6) (N := 8) (As := [ji (xs ((v1 + (1 : Int32))).toNatClampNeg), ji (xs ((v1 + (2 : Int32))).toNatClampNeg), ji (xs ((v1 + (3 : Int32))).toNatClampNeg)]) (rest := []) rfl (by decide) (C_X6_reuse Y hz0 1 sh_root (xs ((v1 + (1 : Int32))).toNatClampNeg) (xs ((v1 + (2 : Int32))).toNatClampNeg) (xs ((v1 + (3 : Int32))).toNatClampNeg) I2 L3 y378 I379 e380) sh_root rfl rfl ⟨by decide, by decide⟩ ⟨Nat.le_of_ble_eq_true rfl, Nat.le_of_ble_eq_true rfl⟩ (Nat.le_of_ble_eq_true rfl) dL_law_1234) ?_
        refine J_aload_n (pc := 1237) hX 2 rfl dL_law_1237 ?_
        refine J_aload_nE (pc := 1238) hX 0 rfl dL_law_1238 ?_
        refine J_iload_n (pc := 1239) hX 3 rfl dL_law_1239 ?_
        refine J_iconst (pc := 1240) hX (v := (1 : Int32)) (by decide) dL_law_1240 ?_
        refine J_iadd (pc := 1241) hX dL_law_1241 ?_
        refine J_sld (pc := 1242) hX hS hb hbA dL_law_1242 (fun h381 => ?_)
        refine J_aload_nE (pc := 1243) hX 0 rfl dL_law_1243 ?_
        refine J_iload_n (pc := 1244) hX 3 rfl dL_law_1244 ?_
        refine J_iconst (pc := 1245) hX (v := (2 : Int32)) (by decide) dL_law_1245 ?_
        refine J_iadd (pc := 1246) hX dL_law_1246 ?_
        refine J_sld (pc := 1247) hX hS hb hbA dL_law_1247 (fun h382 => ?_)
        refine J_aload_nE (pc := 1248) hX 0 rfl dL_law_1248 ?_
        refine J_iload_n (pc := 1249) hX 3 rfl dL_law_1249 ?_
        refine J_iconst (pc := 1250) hX (v := (3 : Int32)) (by decide) dL_law_1250 ?_
        refine J_iadd (pc := 1251) hX dL_law_1251 ?_
        refine J_sld (pc := 1252) hX hS hb hbA dL_law_1252 (fun h383 => ?_)
        refine J_call2 (fun y384 I385 e386 => ?_)
        refine jrun_i (pc := 1253) (jRunV hX s_L_151 (ci := 7) (T := TX7) (N := 20) (As := [ji (xs ((v1 + (1 : Int32))).toNatClampNeg), ji (xs ((v1 + (2 : Int32))).toNatClampNeg), ji (xs ((v1 + (3 : Int32))).toNatClampNeg)]) (rest := [ji y378]) rfl (by decide) (C_X7_reuse Y hz0 164 sh_mod (xs ((v1 + (1 : Int32))).toNatClampNeg) (xs ((v1 + (2 : Int32))).toNatClampNeg) (xs ((v1 + (3 : Int32))).toNatClampNeg) I379 L3 y384 I385 e386) sh_mod rfl rfl ⟨by decide, by decide⟩ ⟨Nat.le_of_ble_eq_true rfl, Nat.le_of_ble_eq_true rfl⟩ (Nat.le_of_ble_eq_true rfl) dL_law_1253) ?_
        refine J_icmp_eq (pc := 1256) hX (tgt := 1488) (by decide) dL_law_1256 (fun h387 => ?_) (fun h387 => ?_)
        · exact hk9 I385 L3
        · refine J_iconst (pc := 1259) hX (v := (0 : Int32)) (by decide) dL_law_1259 ?_
          exact J_none
      refine J_swc (32 : Int32) (fun h388 => ?_) (fun h388 => ?_)
      · refine J_swIn (pc := 33) hX (tgt := 1261) (off := 1228) (32 : Int32) h388 (by decide) (by decide) rfl (by decide) dL_law_33 ?_
        refine J_aload_n (pc := 1261) hX 1 rfl dL_law_1261 ?_
        refine J_aload_nE (pc := 1262) hX 0 rfl dL_law_1262 ?_
        refine J_iload_n (pc := 1263) hX 3 rfl dL_law_1263 ?_
        refine J_iconst (pc := 1264) hX (v := (1 : Int32)) (by decide) dL_law_1264 ?_
        refine J_iadd (pc := 1265) hX dL_law_1265 ?_
        refine J_sld (pc := 1266) hX hS hb hbA dL_law_1266 (fun h389 => ?_)
        refine J_aload_nE (pc := 1267) hX 0 rfl dL_law_1267 ?_
        refine J_iload_n (pc := 1268) hX 3 rfl dL_law_1268 ?_
        refine J_iconst (pc := 1269) hX (v := (2 : Int32)) (by decide) dL_law_1269 ?_
        refine J_iadd (pc := 1270) hX dL_law_1270 ?_
        refine J_sld (pc := 1271) hX hS hb hbA dL_law_1271 (fun h390 => ?_)
        refine J_aload_nE (pc := 1272) hX 0 rfl dL_law_1272 ?_
        refine J_iload_n (pc := 1273) hX 3 rfl dL_law_1273 ?_
        refine J_iconst (pc := 1274) hX (v := (3 : Int32)) (by decide) dL_law_1274 ?_
        refine J_iadd (pc := 1275) hX dL_law_1275 ?_
        refine J_sld (pc := 1276) hX hS hb hbA dL_law_1276 (fun h391 => ?_)
        refine J_call2 (fun y392 I393 e394 => ?_)
        refine jrun_i (pc := 1277) (jRunV hX s_L_152 (ci := 6) (T := TX6) (N := 8) (As := [ji (xs ((v1 + (1 : Int32))).toNatClampNeg), ji (xs ((v1 + (2 : Int32))).toNatClampNeg), ji (xs ((v1 + (3 : Int32))).toNatClampNeg)]) (rest := []) rfl (by decide) (C_X6_rowOf Y hz0 1 sh_root (xs ((v1 + (1 : Int32))).toNatClampNeg) (xs ((v1 + (2 : Int32))).toNatClampNeg) (xs ((v1 + (3 : Int32))).toNatClampNeg) I2 L3 y392 I393 e394) sh_root rfl rfl ⟨by decide, by decide⟩ ⟨Nat.le_of_ble_eq_true rfl, Nat.le_of_ble_eq_true rfl⟩ (Nat.le_of_ble_eq_true rfl) dL_law_1277) ?_
        refine J_aload_n (pc := 1280) hX 2 rfl dL_law_1280 ?_
        refine J_aload_nE (pc := 1281) hX 0 rfl dL_law_1281 ?_
        refine J_iload_n (pc := 1282) hX 3 rfl dL_law_1282 ?_
        refine J_iconst (pc := 1283) hX (v := (1 : Int32)) (by decide) dL_law_1283 ?_
        refine J_iadd (pc := 1284) hX dL_law_1284 ?_
        refine J_sld (pc := 1285) hX hS hb hbA dL_law_1285 (fun h395 => ?_)
        refine J_aload_nE (pc := 1286) hX 0 rfl dL_law_1286 ?_
        refine J_iload_n (pc := 1287) hX 3 rfl dL_law_1287 ?_
        refine J_iconst (pc := 1288) hX (v := (2 : Int32)) (by decide) dL_law_1288 ?_
        refine J_iadd (pc := 1289) hX dL_law_1289 ?_
        refine J_sld (pc := 1290) hX hS hb hbA dL_law_1290 (fun h396 => ?_)
        refine J_aload_nE (pc := 1291) hX 0 rfl dL_law_1291 ?_
        refine J_iload_n (pc := 1292) hX 3 rfl dL_law_1292 ?_
        refine J_iconst (pc := 1293) hX (v := (3 : Int32)) (by decide) dL_law_1293 ?_
        refine J_iadd (pc := 1294) hX dL_law_1294 ?_
        refine J_sld (pc := 1295) hX hS hb hbA dL_law_1295 (fun h397 => ?_)
        refine J_call2 (fun y398 I399 e400 => ?_)
        refine jrun_i (pc := 1296) (jRunV hX s_L_155 (ci := 7) (T := TX7) (N := 20) (As := [ji (xs ((v1 + (1 : Int32))).toNatClampNeg), ji (xs ((v1 + (2 : Int32))).toNatClampNeg), ji (xs ((v1 + (3 : Int32))).toNatClampNeg)]) (rest := [ji y392]) rfl (by decide) (C_X7_rowOf Y hz0 164 sh_mod (xs ((v1 + (1 : Int32))).toNatClampNeg) (xs ((v1 + (2 : Int32))).toNatClampNeg) (xs ((v1 + (3 : Int32))).toNatClampNeg) I393 L3 y398 I399 e400) sh_mod rfl rfl ⟨by decide, by decide⟩ ⟨Nat.le_of_ble_eq_true rfl, Nat.le_of_ble_eq_true rfl⟩ (Nat.le_of_ble_eq_true rfl) dL_law_1296) ?_
        refine J_icmp_eq (pc := 1299) hX (tgt := 1488) (by decide) dL_law_1299 (fun h401 => ?_) (fun h401 => ?_)
        · exact hk9 I399 L3
        · refine J_iconst (pc := 1302) hX (v := (0 : Int32)) (by decide) dL_law_1302 ?_
          exact J_none
      refine J_swc (33 : Int32) (fun h402 => ?_) (fun h402 => ?_)
      · refine J_swIn (pc := 33) hX (tgt := 1304) (off := 1271) (33 : Int32) h402 (by decide) (by decide) rfl (by decide) dL_law_33 ?_
        refine J_aload_n (pc := 1304) hX 1 rfl dL_law_1304 ?_
        refine J_aload_nE (pc := 1305) hX 0 rfl dL_law_1305 ?_
        refine J_iload_n (pc := 1306) hX 3 rfl dL_law_1306 ?_
        refine J_iconst (pc := 1307) hX (v := (1 : Int32)) (by decide) dL_law_1307 ?_
        refine J_iadd (pc := 1308) hX dL_law_1308 ?_
        refine J_sld (pc := 1309) hX hS hb hbA dL_law_1309 (fun h403 => ?_)
        refine J_aload_nE (pc := 1310) hX 0 rfl dL_law_1310 ?_
        refine J_iload_n (pc := 1311) hX 3 rfl dL_law_1311 ?_
        refine J_iconst (pc := 1312) hX (v := (2 : Int32)) (by decide) dL_law_1312 ?_
        refine J_iadd (pc := 1313) hX dL_law_1313 ?_
        refine J_sld (pc := 1314) hX hS hb hbA dL_law_1314 (fun h404 => ?_)
        refine J_call2 (fun y405 I406 e407 => ?_)
        refine jrun_i (pc := 1315) (jRunV hX s_L_156 (ci := 6) (T := TX6) (N := 8) (As := [ji (xs ((v1 + (1 : Int32))).toNatClampNeg), ji (xs ((v1 + (2 : Int32))).toNatClampNeg)]) (rest := []) rfl (by decide) (C_X6_judge Y hz0 1 sh_root (xs ((v1 + (1 : Int32))).toNatClampNeg) (xs ((v1 + (2 : Int32))).toNatClampNeg) I2 L3 y405 I406 e407) sh_root rfl rfl ⟨by decide, by decide⟩ ⟨Nat.le_of_ble_eq_true rfl, Nat.le_of_ble_eq_true rfl⟩ (Nat.le_of_ble_eq_true rfl) dL_law_1315) ?_
        refine J_aload_n (pc := 1318) hX 2 rfl dL_law_1318 ?_
        refine J_aload_nE (pc := 1319) hX 0 rfl dL_law_1319 ?_
        refine J_iload_n (pc := 1320) hX 3 rfl dL_law_1320 ?_
        refine J_iconst (pc := 1321) hX (v := (1 : Int32)) (by decide) dL_law_1321 ?_
        refine J_iadd (pc := 1322) hX dL_law_1322 ?_
        refine J_sld (pc := 1323) hX hS hb hbA dL_law_1323 (fun h408 => ?_)
        refine J_aload_nE (pc := 1324) hX 0 rfl dL_law_1324 ?_
        refine J_iload_n (pc := 1325) hX 3 rfl dL_law_1325 ?_
        refine J_iconst (pc := 1326) hX (v := (2 : Int32)) (by decide) dL_law_1326 ?_
        refine J_iadd (pc := 1327) hX dL_law_1327 ?_
        refine J_sld (pc := 1328) hX hS hb hbA dL_law_1328 (fun h409 => ?_)
        refine J_call2 (fun y410 I411 e412 => ?_)
        refine jrun_i (pc := 1329) (jRunV hX s_L_159 (ci := 7) (T := TX7) (N := 20) (As := [ji (xs ((v1 + (1 : Int32))).toNatClampNeg), ji (xs ((v1 + (2 : Int32))).toNatClampNeg)]) (rest := [ji y405]) rfl (by decide) (C_X7_judge Y hz0 164 sh_mod (xs ((v1 + (1 : Int32))).toNatClampNeg) (xs ((v1 + (2 : Int32))).toNatClampNeg) I406 L3 y410 I411 e412) sh_mod rfl rfl ⟨by decide, by decide⟩ ⟨Nat.le_of_ble_eq_true rfl, Nat.le_of_ble_eq_true rfl⟩ (Nat.le_of_ble_eq_true rfl) dL_law_1329) ?_
        refine J_icmp_eq (pc := 1332) hX (tgt := 1488) (by decide) dL_law_1332 (fun h413 => ?_) (fun h413 => ?_)
        · exact hk9 I411 L3
        · refine J_iconst (pc := 1335) hX (v := (0 : Int32)) (by decide) dL_law_1335 ?_
          exact J_none
      refine J_swc (34 : Int32) (fun h414 => ?_) (fun h414 => ?_)
      · refine J_swIn (pc := 33) hX (tgt := 1337) (off := 1304) (34 : Int32) h414 (by decide) (by decide) rfl (by decide) dL_law_33 ?_
        refine J_aload_n (pc := 1337) hX 1 rfl dL_law_1337 ?_
        refine J_aload_nE (pc := 1338) hX 0 rfl dL_law_1338 ?_
        refine J_iload_n (pc := 1339) hX 3 rfl dL_law_1339 ?_
        refine J_iconst (pc := 1340) hX (v := (1 : Int32)) (by decide) dL_law_1340 ?_
        refine J_iadd (pc := 1341) hX dL_law_1341 ?_
        refine J_sld (pc := 1342) hX hS hb hbA dL_law_1342 (fun h415 => ?_)
        refine J_aload_nE (pc := 1343) hX 0 rfl dL_law_1343 ?_
        refine J_iload_n (pc := 1344) hX 3 rfl dL_law_1344 ?_
        refine J_iconst (pc := 1345) hX (v := (2 : Int32)) (by decide) dL_law_1345 ?_
        refine J_iadd (pc := 1346) hX dL_law_1346 ?_
        refine J_sld (pc := 1347) hX hS hb hbA dL_law_1347 (fun h416 => ?_)
        refine J_call2 (fun y417 I418 e419 => ?_)
        refine jrun_i (pc := 1348) (jRunV hX s_L_160 (ci := 6) (T := TX6) (N := 8) (As := [ji (xs ((v1 + (1 : Int32))).toNatClampNeg), ji (xs ((v1 + (2 : Int32))).toNatClampNeg)]) (rest := []) rfl (by decide) (C_X6_past Y hz0 1 sh_root (xs ((v1 + (1 : Int32))).toNatClampNeg) (xs ((v1 + (2 : Int32))).toNatClampNeg) I2 L3 y417 I418 e419) sh_root rfl rfl ⟨by decide, by decide⟩ ⟨Nat.le_of_ble_eq_true rfl, Nat.le_of_ble_eq_true rfl⟩ (Nat.le_of_ble_eq_true rfl) dL_law_1348) ?_
        refine J_aload_n (pc := 1351) hX 2 rfl dL_law_1351 ?_
        refine J_aload_nE (pc := 1352) hX 0 rfl dL_law_1352 ?_
        refine J_iload_n (pc := 1353) hX 3 rfl dL_law_1353 ?_
        refine J_iconst (pc := 1354) hX (v := (1 : Int32)) (by decide) dL_law_1354 ?_
        refine J_iadd (pc := 1355) hX dL_law_1355 ?_
        refine J_sld (pc := 1356) hX hS hb hbA dL_law_1356 (fun h420 => ?_)
        refine J_aload_nE (pc := 1357) hX 0 rfl dL_law_1357 ?_
        refine J_iload_n (pc := 1358) hX 3 rfl dL_law_1358 ?_
        refine J_iconst (pc := 1359) hX (v := (2 : Int32)) (by decide) dL_law_1359 ?_
        refine J_iadd (pc := 1360) hX dL_law_1360 ?_
        refine J_sld (pc := 1361) hX hS hb hbA dL_law_1361 (fun h421 => ?_)
        refine J_call2 (fun y422 I423 e424 => ?_)
        refine jrun_i (pc := 1362) (jRunV hX s_L_163 (ci := 7) (T := TX7) (N := 20) (As := [ji (xs ((v1 + (1 : Int32))).toNatClampNeg), ji (xs ((v1 + (2 : Int32))).toNatClampNeg)]) (rest := [ji y417]) rfl (by decide) (C_X7_past Y hz0 164 sh_mod (xs ((v1 + (1 : Int32))).toNatClampNeg) (xs ((v1 + (2 : Int32))).toNatClampNeg) I418 L3 y422 I423 e424) sh_mod rfl rfl ⟨by decide, by decide⟩ ⟨Nat.le_of_ble_eq_true rfl, Nat.le_of_ble_eq_true rfl⟩ (Nat.le_of_ble_eq_true rfl) dL_law_1362) ?_
        refine J_icmp_eq (pc := 1365) hX (tgt := 1488) (by decide) dL_law_1365 (fun h425 => ?_) (fun h425 => ?_)
        · exact hk9 I423 L3
        · refine J_iconst (pc := 1368) hX (v := (0 : Int32)) (by decide) dL_law_1368 ?_
          exact J_none
      refine J_swc (35 : Int32) (fun h426 => ?_) (fun h426 => ?_)
      · refine J_swIn (pc := 33) hX (tgt := 1370) (off := 1337) (35 : Int32) h426 (by decide) (by decide) rfl (by decide) dL_law_33 ?_
        refine J_aload_n (pc := 1370) hX 1 rfl dL_law_1370 ?_
        refine J_aload_nE (pc := 1371) hX 0 rfl dL_law_1371 ?_
        refine J_iload_n (pc := 1372) hX 3 rfl dL_law_1372 ?_
        refine J_iconst (pc := 1373) hX (v := (1 : Int32)) (by decide) dL_law_1373 ?_
        refine J_iadd (pc := 1374) hX dL_law_1374 ?_
        refine J_sld (pc := 1375) hX hS hb hbA dL_law_1375 (fun h427 => ?_)
        refine J_call2 (fun y428 I429 e430 => ?_)
        refine jrun_i (pc := 1376) (jRunV hX s_L_164 (ci := 6) (T := TX6) (N := 8) (As := [ji (xs ((v1 + (1 : Int32))).toNatClampNeg)]) (rest := []) rfl (by decide) (C_X6_often Y hz0 1 sh_root (xs ((v1 + (1 : Int32))).toNatClampNeg) I2 L3 y428 I429 e430) sh_root rfl rfl ⟨by decide, by decide⟩ ⟨Nat.le_of_ble_eq_true rfl, Nat.le_of_ble_eq_true rfl⟩ (Nat.le_of_ble_eq_true rfl) dL_law_1376) ?_
        refine J_aload_n (pc := 1379) hX 2 rfl dL_law_1379 ?_
        refine J_aload_nE (pc := 1380) hX 0 rfl dL_law_1380 ?_
        refine J_iload_n (pc := 1381) hX 3 rfl dL_law_1381 ?_
        refine J_iconst (pc := 1382) hX (v := (1 : Int32)) (by decide) dL_law_1382 ?_
        refine J_iadd (pc := 1383) hX dL_law_1383 ?_
        refine J_sld (pc := 1384) hX hS hb hbA dL_law_1384 (fun h431 => ?_)
        refine J_call2 (fun y432 I433 e434 => ?_)
        refine jrun_i (pc := 1385) (jRunV hX s_L_167 (ci := 7) (T := TX7) (N := 20) (As := [ji (xs ((v1 + (1 : Int32))).toNatClampNeg)]) (rest := [ji y428]) rfl (by decide) (C_X7_often Y hz0 164 sh_mod (xs ((v1 + (1 : Int32))).toNatClampNeg) I429 L3 y432 I433 e434) sh_mod rfl rfl ⟨by decide, by decide⟩ ⟨Nat.le_of_ble_eq_true rfl, Nat.le_of_ble_eq_true rfl⟩ (Nat.le_of_ble_eq_true rfl) dL_law_1385) ?_
        refine J_icmp_eq (pc := 1388) hX (tgt := 1488) (by decide) dL_law_1388 (fun h435 => ?_) (fun h435 => ?_)
        · exact hk9 I433 L3
        · refine J_iconst (pc := 1391) hX (v := (0 : Int32)) (by decide) dL_law_1391 ?_
          exact J_none
      refine J_swc (36 : Int32) (fun h436 => ?_) (fun h436 => ?_)
      · refine J_swIn (pc := 33) hX (tgt := 1393) (off := 1360) (36 : Int32) h436 (by decide) (by decide) rfl (by decide) dL_law_33 ?_
        refine J_aload_n (pc := 1393) hX 1 rfl dL_law_1393 ?_
        refine J_aload_nE (pc := 1394) hX 0 rfl dL_law_1394 ?_
        refine J_iload_n (pc := 1395) hX 3 rfl dL_law_1395 ?_
        refine J_iconst (pc := 1396) hX (v := (1 : Int32)) (by decide) dL_law_1396 ?_
        refine J_iadd (pc := 1397) hX dL_law_1397 ?_
        refine J_sld (pc := 1398) hX hS hb hbA dL_law_1398 (fun h437 => ?_)
        refine J_call2 (fun y438 I439 e440 => ?_)
        refine jrun_i (pc := 1399) (jRunV hX s_L_168 (ci := 6) (T := TX6) (N := 8) (As := [ji (xs ((v1 + (1 : Int32))).toNatClampNeg)]) (rest := []) rfl (by decide) (C_X6_days Y hz0 1 sh_root (xs ((v1 + (1 : Int32))).toNatClampNeg) I2 L3 y438 I439 e440) sh_root rfl rfl ⟨by decide, by decide⟩ ⟨Nat.le_of_ble_eq_true rfl, Nat.le_of_ble_eq_true rfl⟩ (Nat.le_of_ble_eq_true rfl) dL_law_1399) ?_
        refine J_aload_n (pc := 1402) hX 2 rfl dL_law_1402 ?_
        refine J_aload_nE (pc := 1403) hX 0 rfl dL_law_1403 ?_
        refine J_iload_n (pc := 1404) hX 3 rfl dL_law_1404 ?_
        refine J_iconst (pc := 1405) hX (v := (1 : Int32)) (by decide) dL_law_1405 ?_
        refine J_iadd (pc := 1406) hX dL_law_1406 ?_
        refine J_sld (pc := 1407) hX hS hb hbA dL_law_1407 (fun h441 => ?_)
        refine J_call2 (fun y442 I443 e444 => ?_)
        refine jrun_i (pc := 1408) (jRunV hX s_L_171 (ci := 7) (T := TX7) (N := 20) (As := [ji (xs ((v1 + (1 : Int32))).toNatClampNeg)]) (rest := [ji y438]) rfl (by decide) (C_X7_days Y hz0 164 sh_mod (xs ((v1 + (1 : Int32))).toNatClampNeg) I439 L3 y442 I443 e444) sh_mod rfl rfl ⟨by decide, by decide⟩ ⟨Nat.le_of_ble_eq_true rfl, Nat.le_of_ble_eq_true rfl⟩ (Nat.le_of_ble_eq_true rfl) dL_law_1408) ?_
        refine J_icmp_eq (pc := 1411) hX (tgt := 1488) (by decide) dL_law_1411 (fun h445 => ?_) (fun h445 => ?_)
        · exact hk9 I443 L3
        · refine J_iconst (pc := 1414) hX (v := (0 : Int32)) (by decide) dL_law_1414 ?_
          exact J_none
      refine J_swc (37 : Int32) (fun h446 => ?_) (fun h446 => ?_)
      · refine J_swIn (pc := 33) hX (tgt := 1416) (off := 1383) (37 : Int32) h446 (by decide) (by decide) rfl (by decide) dL_law_33 ?_
        refine J_aload_n (pc := 1416) hX 1 rfl dL_law_1416 ?_
        refine J_aload_nE (pc := 1417) hX 0 rfl dL_law_1417 ?_
        refine J_iload_n (pc := 1418) hX 3 rfl dL_law_1418 ?_
        refine J_iconst (pc := 1419) hX (v := (1 : Int32)) (by decide) dL_law_1419 ?_
        refine J_iadd (pc := 1420) hX dL_law_1420 ?_
        refine J_sld (pc := 1421) hX hS hb hbA dL_law_1421 (fun h447 => ?_)
        refine J_call2 (fun y448 I449 e450 => ?_)
        refine jrun_i (pc := 1422) (jRunV hX s_L_172 (ci := 6) (T := TX6) (N := 8) (As := [ji (xs ((v1 + (1 : Int32))).toNatClampNeg)]) (rest := []) rfl (by decide) (C_X6_seed Y hz0 1 sh_root (xs ((v1 + (1 : Int32))).toNatClampNeg) I2 L3 y448 I449 e450) sh_root rfl rfl ⟨by decide, by decide⟩ ⟨Nat.le_of_ble_eq_true rfl, Nat.le_of_ble_eq_true rfl⟩ (Nat.le_of_ble_eq_true rfl) dL_law_1422) ?_
        refine J_aload_n (pc := 1425) hX 2 rfl dL_law_1425 ?_
        refine J_aload_nE (pc := 1426) hX 0 rfl dL_law_1426 ?_
        refine J_iload_n (pc := 1427) hX 3 rfl dL_law_1427 ?_
        refine J_iconst (pc := 1428) hX (v := (1 : Int32)) (by decide) dL_law_1428 ?_
        refine J_iadd (pc := 1429) hX dL_law_1429 ?_
        refine J_sld (pc := 1430) hX hS hb hbA dL_law_1430 (fun h451 => ?_)
        refine J_call2 (fun y452 I453 e454 => ?_)
        refine jrun_i (pc := 1431) (jRunV hX s_L_175 (ci := 7) (T := TX7) (N := 20) (As := [ji (xs ((v1 + (1 : Int32))).toNatClampNeg)]) (rest := [ji y448]) rfl (by decide) (C_X7_seed Y hz0 164 sh_mod (xs ((v1 + (1 : Int32))).toNatClampNeg) I449 L3 y452 I453 e454) sh_mod rfl rfl ⟨by decide, by decide⟩ ⟨Nat.le_of_ble_eq_true rfl, Nat.le_of_ble_eq_true rfl⟩ (Nat.le_of_ble_eq_true rfl) dL_law_1431) ?_
        refine J_icmp_eq (pc := 1434) hX (tgt := 1488) (by decide) dL_law_1434 (fun h455 => ?_) (fun h455 => ?_)
        · exact hk9 I453 L3
        · refine J_iconst (pc := 1437) hX (v := (0 : Int32)) (by decide) dL_law_1437 ?_
          exact J_none
      refine J_swc (38 : Int32) (fun h456 => ?_) (fun h456 => ?_)
      · refine J_swIn (pc := 33) hX (tgt := 1439) (off := 1406) (38 : Int32) h456 (by decide) (by decide) rfl (by decide) dL_law_33 ?_
        refine J_aload_n (pc := 1439) hX 1 rfl dL_law_1439 ?_
        refine J_call2 (fun y457 I458 e459 => ?_)
        refine jrun_i (pc := 1440) (jRunV hX s_L_176 (ci := 6) (T := TX6) (N := 8) (As := []) (rest := []) rfl (by decide) (C_X6_image Y hz0 1 sh_root I2 L3 y457 I458 e459) sh_root rfl rfl ⟨by decide, by decide⟩ ⟨Nat.le_of_ble_eq_true rfl, Nat.le_of_ble_eq_true rfl⟩ (Nat.le_of_ble_eq_true rfl) dL_law_1440) ?_
        refine J_aload_n (pc := 1443) hX 2 rfl dL_law_1443 ?_
        refine J_call2 (fun y460 I461 e462 => ?_)
        refine jrun_i (pc := 1444) (jRunV hX s_L_179 (ci := 7) (T := TX7) (N := 20) (As := []) (rest := [ji y457]) rfl (by decide) (C_X7_image Y hz0 164 sh_mod I458 L3 y460 I461 e462) sh_mod rfl rfl ⟨by decide, by decide⟩ ⟨Nat.le_of_ble_eq_true rfl, Nat.le_of_ble_eq_true rfl⟩ (Nat.le_of_ble_eq_true rfl) dL_law_1444) ?_
        refine J_icmp_eq (pc := 1447) hX (tgt := 1488) (by decide) dL_law_1447 (fun h463 => ?_) (fun h463 => ?_)
        · exact hk9 I461 L3
        · refine J_iconst (pc := 1450) hX (v := (0 : Int32)) (by decide) dL_law_1450 ?_
          exact J_none
      refine J_swc (39 : Int32) (fun h464 => ?_) (fun h464 => ?_)
      · refine J_swIn (pc := 33) hX (tgt := 1452) (off := 1419) (39 : Int32) h464 (by decide) (by decide) rfl (by decide) dL_law_33 ?_
        refine J_aload_n (pc := 1452) hX 1 rfl dL_law_1452 ?_
        refine J_call2 (fun y465 I466 e467 => ?_)
        refine jrun_i (pc := 1453) (jRunV hX s_L_180 (ci := 6) (T := TX6) (N := 8) (As := []) (rest := []) rfl (by decide) (C_X6_back Y hz0 1 sh_root I2 L3 y465 I466 e467) sh_root rfl rfl ⟨by decide, by decide⟩ ⟨Nat.le_of_ble_eq_true rfl, Nat.le_of_ble_eq_true rfl⟩ (Nat.le_of_ble_eq_true rfl) dL_law_1453) ?_
        refine J_aload_n (pc := 1456) hX 2 rfl dL_law_1456 ?_
        refine J_call2 (fun y468 I469 e470 => ?_)
        refine jrun_i (pc := 1457) (jRunV hX s_L_183 (ci := 7) (T := TX7) (N := 20) (As := []) (rest := [ji y465]) rfl (by decide) (C_X7_back Y hz0 164 sh_mod I466 L3 y468 I469 e470) sh_mod rfl rfl ⟨by decide, by decide⟩ ⟨Nat.le_of_ble_eq_true rfl, Nat.le_of_ble_eq_true rfl⟩ (Nat.le_of_ble_eq_true rfl) dL_law_1457) ?_
        refine J_icmp_eq (pc := 1460) hX (tgt := 1488) (by decide) dL_law_1460 (fun h471 => ?_) (fun h471 => ?_)
        · exact hk9 I469 L3
        · refine J_iconst (pc := 1463) hX (v := (0 : Int32)) (by decide) dL_law_1463 ?_
          exact J_none
      refine J_swc (40 : Int32) (fun h472 => ?_) (fun h472 => ?_)
      · refine J_swIn (pc := 33) hX (tgt := 1465) (off := 1432) (40 : Int32) h472 (by decide) (by decide) rfl (by decide) dL_law_33 ?_
        refine J_aload_n (pc := 1465) hX 1 rfl dL_law_1465 ?_
        refine J_aload_nE (pc := 1466) hX 0 rfl dL_law_1466 ?_
        refine J_iload_n (pc := 1467) hX 3 rfl dL_law_1467 ?_
        refine J_iconst (pc := 1468) hX (v := (1 : Int32)) (by decide) dL_law_1468 ?_
        refine J_iadd (pc := 1469) hX dL_law_1469 ?_
        refine J_sld (pc := 1470) hX hS hb hbA dL_law_1470 (fun h473 => ?_)
        refine J_call1 (fun y474 e475 => ?_)
        refine jrun_i (pc := 1471) (jRunV hX s_L_184 (ci := 6) (T := TX6) (N := 8) (As := [ji (xs ((v1 + (1 : Int32))).toNatClampNeg)]) (rest := []) rfl (by decide) (C_X6_status Y hz0 1 sh_root (xs ((v1 + (1 : Int32))).toNatClampNeg) I2 L3 y474 e475) sh_root rfl rfl ⟨by decide, by decide⟩ ⟨Nat.le_of_ble_eq_true rfl, Nat.le_of_ble_eq_true rfl⟩ (Nat.le_of_ble_eq_true rfl) dL_law_1471) ?_
        refine J_aload_n (pc := 1474) hX 2 rfl dL_law_1474 ?_
        refine J_aload_nE (pc := 1475) hX 0 rfl dL_law_1475 ?_
        refine J_iload_n (pc := 1476) hX 3 rfl dL_law_1476 ?_
        refine J_iconst (pc := 1477) hX (v := (1 : Int32)) (by decide) dL_law_1477 ?_
        refine J_iadd (pc := 1478) hX dL_law_1478 ?_
        refine J_sld (pc := 1479) hX hS hb hbA dL_law_1479 (fun h476 => ?_)
        refine J_call1 (fun y477 e478 => ?_)
        refine jrun_i (pc := 1480) (jRunV hX s_L_187 (ci := 7) (T := TX7) (N := 20) (As := [ji (xs ((v1 + (1 : Int32))).toNatClampNeg)]) (rest := [ji y474]) rfl (by decide) (C_X7_status Y hz0 164 sh_mod (xs ((v1 + (1 : Int32))).toNatClampNeg) I2 L3 y477 e478) sh_mod rfl rfl ⟨by decide, by decide⟩ ⟨Nat.le_of_ble_eq_true rfl, Nat.le_of_ble_eq_true rfl⟩ (Nat.le_of_ble_eq_true rfl) dL_law_1480) ?_
        refine J_icmp_eq (pc := 1483) hX (tgt := 1488) (by decide) dL_law_1483 (fun h479 => ?_) (fun h479 => ?_)
        · exact hk9 I2 L3
        · refine J_iconst (pc := 1486) hX (v := (0 : Int32)) (by decide) dL_law_1486 ?_
          exact J_none
      refine J_swOut (pc := 33) hX (tgt := 1488) (by decide) (jsw_2 (jsw_1 (b := 41) (40 : Int32) (jsw_1 (b := 40) (39 : Int32) (jsw_1 (b := 39) (38 : Int32) (jsw_1 (b := 38) (37 : Int32) (jsw_1 (b := 37) (36 : Int32) (jsw_1 (b := 36) (35 : Int32) (jsw_1 (b := 35) (34 : Int32) (jsw_1 (b := 34) (33 : Int32) (jsw_1 (b := 33) (32 : Int32) (jsw_1 (b := 32) (31 : Int32) (jsw_1 (b := 31) (30 : Int32) (jsw_1 (b := 30) (29 : Int32) (jsw_1 (b := 29) (28 : Int32) (jsw_1 (b := 28) (27 : Int32) (jsw_1 (b := 27) (26 : Int32) (jsw_1 (b := 26) (25 : Int32) (jsw_1 (b := 25) (24 : Int32) (jsw_1 (b := 24) (23 : Int32) (jsw_1 (b := 23) (22 : Int32) (jsw_1 (b := 22) (21 : Int32) (jsw_1 (b := 21) (20 : Int32) (jsw_1 (b := 20) (19 : Int32) (jsw_1 (b := 19) (18 : Int32) (jsw_1 (b := 18) (17 : Int32) (jsw_1 (b := 17) (16 : Int32) (jsw_1 (b := 16) (15 : Int32) (jsw_1 (b := 15) (14 : Int32) (jsw_1 (b := 14) (13 : Int32) (jsw_1 (b := 13) (12 : Int32) (jsw_1 (b := 12) (11 : Int32) (jsw_1 (b := 11) (10 : Int32) (jsw_1 (b := 10) (9 : Int32) (jsw_1 (b := 9) (8 : Int32) (jsw_1 (b := 8) (7 : Int32) (jsw_1 (b := 7) (6 : Int32) (jsw_1 (b := 6) (5 : Int32) (jsw_1 (b := 5) (4 : Int32) (jsw_1 (b := 4) (3 : Int32) (jsw_1 (b := 3) (2 : Int32) (jsw_1 (b := 2) (1 : Int32) (jsw_1 (b := 1) (0 : Int32) jsw_0 h10 (by decide) (by decide)) h26 (by decide) (by decide)) h44 (by decide) (by decide)) h64 (by decide) (by decide)) h74 (by decide) (by decide)) h82 (by decide) (by decide)) h94 (by decide) (by decide)) h106 (by decide) (by decide)) h116 (by decide) (by decide)) h124 (by decide) (by decide)) h132 (by decide) (by decide)) h146 (by decide) (by decide)) h154 (by decide) (by decide)) h166 (by decide) (by decide)) h178 (by decide) (by decide)) h188 (by decide) (by decide)) h200 (by decide) (by decide)) h210 (by decide) (by decide)) h218 (by decide) (by decide)) h230 (by decide) (by decide)) h244 (by decide) (by decide)) h256 (by decide) (by decide)) h266 (by decide) (by decide)) h276 (by decide) (by decide)) h286 (by decide) (by decide)) h292 (by decide) (by decide)) h304 (by decide) (by decide)) h318 (by decide) (by decide)) h332 (by decide) (by decide)) h348 (by decide) (by decide)) h360 (by decide) (by decide)) h374 (by decide) (by decide)) h388 (by decide) (by decide)) h402 (by decide) (by decide)) h414 (by decide) (by decide)) h426 (by decide) (by decide)) h436 (by decide) (by decide)) h446 (by decide) (by decide)) h456 (by decide) (by decide)) h464 (by decide) (by decide)) h472 (by decide) (by decide)) (by decide)) dL_law_33 ?_
      exact hk9 I2 L3
  refine J_sub [3, 2, 1, 0] rfl ?_
  exact lhg4 1000 (0 : Int32) I0 L0
