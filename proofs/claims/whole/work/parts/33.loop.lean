theorem kw_385 : Cond.methodLink RL 13 yX11_feed ∈ lw_G := mem_t2 64 rfl rfl
theorem kw_386 : Cond.instanceMethod yX11_feed ∈ lw_G := mem_t2 65 rfl rfl
theorem kw_387 : Cond.selects RX11 yX11_feed yX11_feed ∈ lw_G := mem_t2 66 rfl rfl
theorem kw_388 : Cond.code yX11_feed cX11_feed 6 (some .int) ∈ lw_G := mem_t2 67 rfl rfl
theorem kw_405 : Cond.methodLink RL 18 yX11_cut ∈ lw_G := mem_t2 84 rfl rfl
theorem kw_406 : Cond.instanceMethod yX11_cut ∈ lw_G := mem_t2 85 rfl rfl
theorem kw_407 : Cond.selects RX11 yX11_cut yX11_cut ∈ lw_G := mem_t2 86 rfl rfl
theorem kw_408 : Cond.code yX11_cut cX11_cut 3 (some .int) ∈ lw_G := mem_t2 87 rfl rfl
theorem kw_413 : Cond.methodLink RL 23 yX11_out ∈ lw_G := mem_t2 92 rfl rfl
theorem kw_414 : Cond.instanceMethod yX11_out ∈ lw_G := mem_t2 93 rfl rfl
theorem kw_415 : Cond.selects RX11 yX11_out yX11_out ∈ lw_G := mem_t2 94 rfl rfl
theorem kw_416 : Cond.code yX11_out cX11_out 2 (some .int) ∈ lw_G := mem_t2 95 rfl rfl
theorem kw_421 : Cond.methodLink RL 27 yX11_back ∈ lw_G := mem_t2 100 rfl rfl
theorem kw_422 : Cond.instanceMethod yX11_back ∈ lw_G := mem_t2 101 rfl rfl
theorem kw_423 : Cond.selects RX11 yX11_back yX11_back ∈ lw_G := mem_t2 102 rfl rfl
theorem kw_424 : Cond.code yX11_back cX11_back 1 (some .int) ∈ lw_G := mem_t2 103 rfl rfl
theorem kw_437 : Cond.methodLink RL 32 yX11_dictionary ∈ lw_G := mem_t2 116 rfl rfl
theorem kw_438 : Cond.instanceMethod yX11_dictionary ∈ lw_G := mem_t2 117 rfl rfl
theorem kw_439 : Cond.selects RX11 yX11_dictionary yX11_dictionary ∈ lw_G := mem_t2 118 rfl rfl
theorem kw_440 : Cond.code yX11_dictionary cX11_dictionary 1 (some .int) ∈ lw_G := mem_t2 119 rfl rfl
theorem kw_441 : Cond.methodLink RL 36 yX11_set ∈ lw_G := mem_t2 120 rfl rfl
theorem kw_442 : Cond.instanceMethod yX11_set ∈ lw_G := mem_t2 121 rfl rfl
theorem kw_443 : Cond.selects RX11 yX11_set yX11_set ∈ lw_G := mem_t2 122 rfl rfl
theorem kw_444 : Cond.code yX11_set cX11_set 4 (some .int) ∈ lw_G := mem_t2 123 rfl rfl
theorem kw_445 : Cond.methodLink RL 41 yX11_pack ∈ lw_G := mem_t2 124 rfl rfl
theorem kw_446 : Cond.instanceMethod yX11_pack ∈ lw_G := mem_t2 125 rfl rfl
theorem kw_447 : Cond.selects RX11 yX11_pack yX11_pack ∈ lw_G := mem_t2 126 rfl rfl
theorem kw_448 : Cond.code yX11_pack cX11_pack 3 (some .int) ∈ lw_G := mem_t2 127 rfl rfl
theorem kw_827 : Cond.methodLink RL 45 yX11_more ∈ lw_G := mem_t4 26 rfl rfl
theorem kw_828 : Cond.instanceMethod yX11_more ∈ lw_G := mem_t4 27 rfl rfl
theorem kw_829 : Cond.selects RX11 yX11_more yX11_more ∈ lw_G := mem_t4 28 rfl rfl
theorem kw_830 : Cond.code yX11_more cX11_more 3 (some .int) ∈ lw_G := mem_t4 29 rfl rfl
theorem kw_832 : Cond.methodLink RL 49 yX11_skip ∈ lw_G := mem_t4 31 rfl rfl
theorem kw_833 : Cond.instanceMethod yX11_skip ∈ lw_G := mem_t4 32 rfl rfl
theorem kw_834 : Cond.selects RX11 yX11_skip yX11_skip ∈ lw_G := mem_t4 33 rfl rfl
theorem kw_835 : Cond.code yX11_skip cX11_skip 6 (some .int) ∈ lw_G := mem_t4 34 rfl rfl
theorem kw_839 : Cond.methodLink RL 53 yX11_open ∈ lw_G := mem_t4 38 rfl rfl
theorem kw_840 : Cond.instanceMethod yX11_open ∈ lw_G := mem_t4 39 rfl rfl
theorem kw_841 : Cond.selects RX11 yX11_open yX11_open ∈ lw_G := mem_t4 40 rfl rfl
theorem kw_842 : Cond.code yX11_open cX11_open 3 (some .int) ∈ lw_G := mem_t4 41 rfl rfl
theorem kw_995 : Cond.methodLink RL 57 yX11_rule ∈ lw_G := mem_t4 194 rfl rfl
theorem kw_996 : Cond.instanceMethod yX11_rule ∈ lw_G := mem_t4 195 rfl rfl
theorem kw_997 : Cond.selects RX11 yX11_rule yX11_rule ∈ lw_G := mem_t4 196 rfl rfl
theorem kw_998 : Cond.code yX11_rule cX11_rule 2 (some .int) ∈ lw_G := mem_t4 197 rfl rfl
theorem kw_1003 : Cond.methodLink RL 61 yX11_block ∈ lw_G := mem_t4 202 rfl rfl
theorem kw_1004 : Cond.instanceMethod yX11_block ∈ lw_G := mem_t4 203 rfl rfl
theorem kw_1005 : Cond.selects RX11 yX11_block yX11_block ∈ lw_G := mem_t4 204 rfl rfl
theorem kw_1006 : Cond.code yX11_block cX11_block 3 (some .int) ∈ lw_G := mem_t4 205 rfl rfl
theorem kw_1015 : Cond.methodLink RL 65 yX11_longest ∈ lw_G := mem_t4 214 rfl rfl
theorem kw_1016 : Cond.instanceMethod yX11_longest ∈ lw_G := mem_t4 215 rfl rfl
theorem kw_1017 : Cond.selects RX11 yX11_longest yX11_longest ∈ lw_G := mem_t4 216 rfl rfl
theorem kw_1018 : Cond.code yX11_longest cX11_longest 2 (some .int) ∈ lw_G := mem_t4 217 rfl rfl
theorem kw_1021 : Cond.methodLink RL 69 yX11_near ∈ lw_G := mem_t4 220 rfl rfl
theorem kw_1022 : Cond.instanceMethod yX11_near ∈ lw_G := mem_t4 221 rfl rfl
theorem kw_1023 : Cond.selects RX11 yX11_near yX11_near ∈ lw_G := mem_t4 222 rfl rfl
theorem kw_1024 : Cond.code yX11_near cX11_near 4 (some .int) ∈ lw_G := mem_t4 223 rfl rfl
theorem kw_1026 : Cond.methodLink RL 73 yX11_sum ∈ lw_G := mem_t4 225 rfl rfl
theorem kw_1027 : Cond.instanceMethod yX11_sum ∈ lw_G := mem_t4 226 rfl rfl
theorem kw_1028 : Cond.selects RX11 yX11_sum yX11_sum ∈ lw_G := mem_t4 227 rfl rfl
theorem kw_1029 : Cond.code yX11_sum cX11_sum 2 (some .long) ∈ lw_G := mem_t4 228 rfl rfl
theorem kw_1035 : Cond.methodLink RL 78 yX11_bound ∈ lw_G := mem_t4 234 rfl rfl
theorem kw_1036 : Cond.instanceMethod yX11_bound ∈ lw_G := mem_t4 235 rfl rfl
theorem kw_1037 : Cond.selects RX11 yX11_bound yX11_bound ∈ lw_G := mem_t4 236 rfl rfl
theorem kw_1038 : Cond.code yX11_bound cX11_bound 3 (some .long) ∈ lw_G := mem_t4 237 rfl rfl
theorem kw_1041 : Cond.methodLink RL 83 yX11_told ∈ lw_G := mem_t5 0 rfl rfl
theorem kw_1042 : Cond.instanceMethod yX11_told ∈ lw_G := mem_t5 1 rfl rfl
theorem kw_1043 : Cond.selects RX11 yX11_told yX11_told ∈ lw_G := mem_t5 2 rfl rfl
theorem kw_1044 : Cond.code yX11_told cX11_told 2 (some .int) ∈ lw_G := mem_t5 3 rfl rfl
theorem kw_1149 : Cond.methodLink RL 17 yX12_feed ∈ lw_G := mem_t5 108 rfl rfl
theorem kw_1150 : Cond.instanceMethod yX12_feed ∈ lw_G := mem_t5 109 rfl rfl
theorem kw_1151 : Cond.selects RX12 yX12_feed yX12_feed ∈ lw_G := mem_t5 110 rfl rfl
theorem kw_1152 : Cond.code yX12_feed cX12_feed 6 (some .int) ∈ lw_G := mem_t5 111 rfl rfl
theorem kw_1157 : Cond.methodLink RL 22 yX12_cut ∈ lw_G := mem_t5 116 rfl rfl
theorem kw_1158 : Cond.instanceMethod yX12_cut ∈ lw_G := mem_t5 117 rfl rfl
theorem kw_1159 : Cond.selects RX12 yX12_cut yX12_cut ∈ lw_G := mem_t5 118 rfl rfl
theorem kw_1160 : Cond.code yX12_cut cX12_cut 3 (some .int) ∈ lw_G := mem_t5 119 rfl rfl
theorem kw_1164 : Cond.methodLink RL 26 yX12_out ∈ lw_G := mem_t5 123 rfl rfl
theorem kw_1165 : Cond.instanceMethod yX12_out ∈ lw_G := mem_t5 124 rfl rfl
theorem kw_1166 : Cond.selects RX12 yX12_out yX12_out ∈ lw_G := mem_t5 125 rfl rfl
theorem kw_1167 : Cond.code yX12_out cX12_out 2 (some .int) ∈ lw_G := mem_t5 126 rfl rfl
theorem kw_1168 : Cond.methodLink RL 31 yX12_back ∈ lw_G := mem_t5 127 rfl rfl
theorem kw_1169 : Cond.instanceMethod yX12_back ∈ lw_G := mem_t5 128 rfl rfl
theorem kw_1170 : Cond.selects RX12 yX12_back yX12_back ∈ lw_G := mem_t5 129 rfl rfl
theorem kw_1171 : Cond.code yX12_back cX12_back 1 (some .int) ∈ lw_G := mem_t5 130 rfl rfl
theorem kw_1175 : Cond.methodLink RL 35 yX12_dictionary ∈ lw_G := mem_t5 134 rfl rfl
theorem kw_1176 : Cond.instanceMethod yX12_dictionary ∈ lw_G := mem_t5 135 rfl rfl
theorem kw_1177 : Cond.selects RX12 yX12_dictionary yX12_dictionary ∈ lw_G := mem_t5 136 rfl rfl
theorem kw_1178 : Cond.code yX12_dictionary cX12_dictionary 1 (some .int) ∈ lw_G := mem_t5 137 rfl rfl
theorem kw_1179 : Cond.methodLink RL 40 yX12_set ∈ lw_G := mem_t5 138 rfl rfl
theorem kw_1180 : Cond.instanceMethod yX12_set ∈ lw_G := mem_t5 139 rfl rfl
theorem kw_1181 : Cond.selects RX12 yX12_set yX12_set ∈ lw_G := mem_t5 140 rfl rfl
theorem kw_1182 : Cond.code yX12_set cX12_set 5 (some .int) ∈ lw_G := mem_t5 141 rfl rfl
theorem kw_1186 : Cond.methodLink RL 44 yX12_pack ∈ lw_G := mem_t5 145 rfl rfl
theorem kw_1187 : Cond.instanceMethod yX12_pack ∈ lw_G := mem_t5 146 rfl rfl
theorem kw_1188 : Cond.selects RX12 yX12_pack yX12_pack ∈ lw_G := mem_t5 147 rfl rfl
theorem kw_1189 : Cond.code yX12_pack cX12_pack 3 (some .int) ∈ lw_G := mem_t5 148 rfl rfl
theorem kw_1329 : Cond.methodLink RL 48 yX12_more ∈ lw_G := mem_t6 48 rfl rfl
theorem kw_1330 : Cond.instanceMethod yX12_more ∈ lw_G := mem_t6 49 rfl rfl
theorem kw_1331 : Cond.selects RX12 yX12_more yX12_more ∈ lw_G := mem_t6 50 rfl rfl
theorem kw_1332 : Cond.code yX12_more cX12_more 5 (some .int) ∈ lw_G := mem_t6 51 rfl rfl
theorem kw_1337 : Cond.methodLink RL 52 yX12_skip ∈ lw_G := mem_t6 56 rfl rfl
theorem kw_1338 : Cond.instanceMethod yX12_skip ∈ lw_G := mem_t6 57 rfl rfl
theorem kw_1339 : Cond.selects RX12 yX12_skip yX12_skip ∈ lw_G := mem_t6 58 rfl rfl
theorem kw_1340 : Cond.code yX12_skip cX12_skip 5 (some .int) ∈ lw_G := mem_t6 59 rfl rfl
theorem kw_1345 : Cond.methodLink RL 56 yX12_open ∈ lw_G := mem_t6 64 rfl rfl
theorem kw_1346 : Cond.instanceMethod yX12_open ∈ lw_G := mem_t6 65 rfl rfl
theorem kw_1347 : Cond.selects RX12 yX12_open yX12_open ∈ lw_G := mem_t6 66 rfl rfl
theorem kw_1348 : Cond.code yX12_open cX12_open 3 (some .int) ∈ lw_G := mem_t6 67 rfl rfl
theorem kw_1392 : Cond.methodLink RL 60 yX12_rule ∈ lw_G := mem_t6 111 rfl rfl
theorem kw_1393 : Cond.instanceMethod yX12_rule ∈ lw_G := mem_t6 112 rfl rfl
theorem kw_1394 : Cond.selects RX12 yX12_rule yX12_rule ∈ lw_G := mem_t6 113 rfl rfl
theorem kw_1395 : Cond.code yX12_rule cX12_rule 2 (some .int) ∈ lw_G := mem_t6 114 rfl rfl
theorem kw_1396 : Cond.methodLink RL 64 yX12_block ∈ lw_G := mem_t6 115 rfl rfl
theorem kw_1397 : Cond.instanceMethod yX12_block ∈ lw_G := mem_t6 116 rfl rfl
theorem kw_1398 : Cond.selects RX12 yX12_block yX12_block ∈ lw_G := mem_t6 117 rfl rfl
theorem kw_1399 : Cond.code yX12_block cX12_block 3 (some .int) ∈ lw_G := mem_t6 118 rfl rfl
theorem kw_1400 : Cond.methodLink RL 68 yX12_longest ∈ lw_G := mem_t6 119 rfl rfl
theorem kw_1401 : Cond.instanceMethod yX12_longest ∈ lw_G := mem_t6 120 rfl rfl
theorem kw_1402 : Cond.selects RX12 yX12_longest yX12_longest ∈ lw_G := mem_t6 121 rfl rfl
theorem kw_1403 : Cond.code yX12_longest cX12_longest 2 (some .int) ∈ lw_G := mem_t6 122 rfl rfl
theorem kw_1408 : Cond.methodLink RL 72 yX12_near ∈ lw_G := mem_t6 127 rfl rfl
theorem kw_1409 : Cond.instanceMethod yX12_near ∈ lw_G := mem_t6 128 rfl rfl
theorem kw_1410 : Cond.selects RX12 yX12_near yX12_near ∈ lw_G := mem_t6 129 rfl rfl
theorem kw_1411 : Cond.code yX12_near cX12_near 3 (some .int) ∈ lw_G := mem_t6 130 rfl rfl
theorem kw_1412 : Cond.methodLink RL 77 yX12_sum ∈ lw_G := mem_t6 131 rfl rfl
theorem kw_1413 : Cond.instanceMethod yX12_sum ∈ lw_G := mem_t6 132 rfl rfl
theorem kw_1414 : Cond.selects RX12 yX12_sum yX12_sum ∈ lw_G := mem_t6 133 rfl rfl
theorem kw_1415 : Cond.code yX12_sum cX12_sum 3 (some .long) ∈ lw_G := mem_t6 134 rfl rfl
theorem kw_1417 : Cond.methodLink RL 82 yX12_bound ∈ lw_G := mem_t6 136 rfl rfl
theorem kw_1418 : Cond.instanceMethod yX12_bound ∈ lw_G := mem_t6 137 rfl rfl
theorem kw_1419 : Cond.selects RX12 yX12_bound yX12_bound ∈ lw_G := mem_t6 138 rfl rfl
theorem kw_1420 : Cond.code yX12_bound cX12_bound 3 (some .long) ∈ lw_G := mem_t6 139 rfl rfl
theorem kw_1422 : Cond.methodLink RL 86 yX12_told ∈ lw_G := mem_t6 141 rfl rfl
theorem kw_1423 : Cond.instanceMethod yX12_told ∈ lw_G := mem_t6 142 rfl rfl
theorem kw_1424 : Cond.selects RX12 yX12_told yX12_told ∈ lw_G := mem_t6 143 rfl rfl
theorem kw_1425 : Cond.code yX12_told cX12_told 2 (some .int) ∈ lw_G := mem_t6 144 rfl rfl
theorem dL_law_0 : decode cL_law 0 = .ok (.new 7, 3) := by decide +kernel
theorem dL_law_3 : decode cL_law 3 = .ok (.dup, 1) := by decide +kernel
theorem dL_law_4 : decode cL_law 4 = .ok (.invokespecial 9, 3) := by decide +kernel
theorem dL_law_7 : decode cL_law 7 = .ok (.astore_n 1, 1) := by decide +kernel
theorem dL_law_8 : decode cL_law 8 = .ok (.new 10, 3) := by decide +kernel
theorem dL_law_11 : decode cL_law 11 = .ok (.dup, 1) := by decide +kernel
theorem dL_law_12 : decode cL_law 12 = .ok (.invokespecial 12, 3) := by decide +kernel
theorem dL_law_15 : decode cL_law 15 = .ok (.astore_n 2, 1) := by decide +kernel
theorem dL_law_16 : decode cL_law 16 = .ok (.iconst 0, 1) := by decide +kernel
theorem dL_law_17 : decode cL_law 17 = .ok (.istore_n 3, 1) := by decide +kernel
theorem dL_law_18 : decode cL_law 18 = .ok (.iload_n 3, 1) := by decide +kernel
theorem dL_law_19 : decode cL_law 19 = .ok (.aload_n 0, 1) := by decide +kernel
theorem dL_law_20 : decode cL_law 20 = .ok (.arraylength, 1) := by decide +kernel
theorem dL_law_21 : decode cL_law 21 = .ok (.bipush 6, 2) := by decide +kernel
theorem dL_law_23 : decode cL_law 23 = .ok (.isub, 1) := by decide +kernel
theorem dL_law_24 : decode cL_law 24 = .ok (.if_icmp .gt 581, 3) := by decide +kernel
theorem dL_law_27 : decode cL_law 27 = .ok (.aload_n 0, 1) := by decide +kernel
theorem dL_law_28 : decode cL_law 28 = .ok (.iload_n 3, 1) := by decide +kernel
theorem dL_law_29 : decode cL_law 29 = .ok (.iaload, 1) := by decide +kernel
theorem dL_law_30 : decode cL_law 30 = .ok (.bipush 31, 2) := by decide +kernel
theorem dL_law_32 : decode cL_law 32 = .ok (.iand, 1) := by decide +kernel
theorem dL_law_33 : decode cL_law 33 = .ok (.tableswitch 566 0 16 #[83, 146, 169, 192, 205, 218, 251, 284, 317, 350, 373, 396, 429, 452, 485, 509, 543], 83) := by decide +kernel
theorem dL_law_116 : decode cL_law 116 = .ok (.aload_n 1, 1) := by decide +kernel
theorem dL_law_117 : decode cL_law 117 = .ok (.aload_n 0, 1) := by decide +kernel
theorem dL_law_118 : decode cL_law 118 = .ok (.iload_n 3, 1) := by decide +kernel
theorem dL_law_119 : decode cL_law 119 = .ok (.iconst 1, 1) := by decide +kernel
theorem dL_law_120 : decode cL_law 120 = .ok (.iadd, 1) := by decide +kernel
theorem dL_law_121 : decode cL_law 121 = .ok (.iaload, 1) := by decide +kernel
theorem dL_law_122 : decode cL_law 122 = .ok (.aload_n 0, 1) := by decide +kernel
theorem dL_law_123 : decode cL_law 123 = .ok (.iload_n 3, 1) := by decide +kernel
theorem dL_law_124 : decode cL_law 124 = .ok (.iconst 2, 1) := by decide +kernel
theorem dL_law_125 : decode cL_law 125 = .ok (.iadd, 1) := by decide +kernel
theorem dL_law_126 : decode cL_law 126 = .ok (.iaload, 1) := by decide +kernel
theorem dL_law_127 : decode cL_law 127 = .ok (.aload_n 0, 1) := by decide +kernel
theorem dL_law_128 : decode cL_law 128 = .ok (.iload_n 3, 1) := by decide +kernel
theorem dL_law_129 : decode cL_law 129 = .ok (.iconst 3, 1) := by decide +kernel
theorem dL_law_130 : decode cL_law 130 = .ok (.iadd, 1) := by decide +kernel
theorem dL_law_131 : decode cL_law 131 = .ok (.iaload, 1) := by decide +kernel
theorem dL_law_132 : decode cL_law 132 = .ok (.aload_n 0, 1) := by decide +kernel
theorem dL_law_133 : decode cL_law 133 = .ok (.iload_n 3, 1) := by decide +kernel
theorem dL_law_134 : decode cL_law 134 = .ok (.iconst 4, 1) := by decide +kernel
theorem dL_law_135 : decode cL_law 135 = .ok (.iadd, 1) := by decide +kernel
theorem dL_law_136 : decode cL_law 136 = .ok (.iaload, 1) := by decide +kernel
theorem dL_law_137 : decode cL_law 137 = .ok (.aload_n 0, 1) := by decide +kernel
theorem dL_law_138 : decode cL_law 138 = .ok (.iload_n 3, 1) := by decide +kernel
theorem dL_law_139 : decode cL_law 139 = .ok (.iconst 5, 1) := by decide +kernel
theorem dL_law_140 : decode cL_law 140 = .ok (.iadd, 1) := by decide +kernel
theorem dL_law_141 : decode cL_law 141 = .ok (.iaload, 1) := by decide +kernel
theorem dL_law_142 : decode cL_law 142 = .ok (.invokevirtual 13, 3) := by decide +kernel
theorem dL_law_145 : decode cL_law 145 = .ok (.aload_n 2, 1) := by decide +kernel
theorem dL_law_146 : decode cL_law 146 = .ok (.aload_n 0, 1) := by decide +kernel
theorem dL_law_147 : decode cL_law 147 = .ok (.iload_n 3, 1) := by decide +kernel
theorem dL_law_148 : decode cL_law 148 = .ok (.iconst 1, 1) := by decide +kernel
theorem dL_law_149 : decode cL_law 149 = .ok (.iadd, 1) := by decide +kernel
theorem dL_law_150 : decode cL_law 150 = .ok (.iaload, 1) := by decide +kernel
theorem dL_law_151 : decode cL_law 151 = .ok (.aload_n 0, 1) := by decide +kernel
theorem dL_law_152 : decode cL_law 152 = .ok (.iload_n 3, 1) := by decide +kernel
theorem dL_law_153 : decode cL_law 153 = .ok (.iconst 2, 1) := by decide +kernel
theorem dL_law_154 : decode cL_law 154 = .ok (.iadd, 1) := by decide +kernel
theorem dL_law_155 : decode cL_law 155 = .ok (.iaload, 1) := by decide +kernel
theorem dL_law_156 : decode cL_law 156 = .ok (.aload_n 0, 1) := by decide +kernel
theorem dL_law_157 : decode cL_law 157 = .ok (.iload_n 3, 1) := by decide +kernel
theorem dL_law_158 : decode cL_law 158 = .ok (.iconst 3, 1) := by decide +kernel
theorem dL_law_159 : decode cL_law 159 = .ok (.iadd, 1) := by decide +kernel
theorem dL_law_160 : decode cL_law 160 = .ok (.iaload, 1) := by decide +kernel
theorem dL_law_161 : decode cL_law 161 = .ok (.aload_n 0, 1) := by decide +kernel
theorem dL_law_162 : decode cL_law 162 = .ok (.iload_n 3, 1) := by decide +kernel
theorem dL_law_163 : decode cL_law 163 = .ok (.iconst 4, 1) := by decide +kernel
theorem dL_law_164 : decode cL_law 164 = .ok (.iadd, 1) := by decide +kernel
theorem dL_law_165 : decode cL_law 165 = .ok (.iaload, 1) := by decide +kernel
theorem dL_law_166 : decode cL_law 166 = .ok (.aload_n 0, 1) := by decide +kernel
theorem dL_law_167 : decode cL_law 167 = .ok (.iload_n 3, 1) := by decide +kernel
theorem dL_law_168 : decode cL_law 168 = .ok (.iconst 5, 1) := by decide +kernel
theorem dL_law_169 : decode cL_law 169 = .ok (.iadd, 1) := by decide +kernel
theorem dL_law_170 : decode cL_law 170 = .ok (.iaload, 1) := by decide +kernel
theorem dL_law_171 : decode cL_law 171 = .ok (.invokevirtual 17, 3) := by decide +kernel
theorem dL_law_174 : decode cL_law 174 = .ok (.if_icmp .eq 425, 3) := by decide +kernel
theorem dL_law_177 : decode cL_law 177 = .ok (.iconst 0, 1) := by decide +kernel
theorem dL_law_178 : decode cL_law 178 = .ok (.ireturn, 1) := by decide +kernel
theorem dL_law_179 : decode cL_law 179 = .ok (.aload_n 1, 1) := by decide +kernel
theorem dL_law_180 : decode cL_law 180 = .ok (.aload_n 0, 1) := by decide +kernel
theorem dL_law_181 : decode cL_law 181 = .ok (.iload_n 3, 1) := by decide +kernel
theorem dL_law_182 : decode cL_law 182 = .ok (.iconst 1, 1) := by decide +kernel
theorem dL_law_183 : decode cL_law 183 = .ok (.iadd, 1) := by decide +kernel
theorem dL_law_184 : decode cL_law 184 = .ok (.iaload, 1) := by decide +kernel
theorem dL_law_185 : decode cL_law 185 = .ok (.invokevirtual 18, 3) := by decide +kernel
theorem dL_law_188 : decode cL_law 188 = .ok (.aload_n 2, 1) := by decide +kernel
theorem dL_law_189 : decode cL_law 189 = .ok (.aload_n 0, 1) := by decide +kernel
theorem dL_law_190 : decode cL_law 190 = .ok (.iload_n 3, 1) := by decide +kernel
theorem dL_law_191 : decode cL_law 191 = .ok (.iconst 1, 1) := by decide +kernel
theorem dL_law_192 : decode cL_law 192 = .ok (.iadd, 1) := by decide +kernel
theorem dL_law_193 : decode cL_law 193 = .ok (.iaload, 1) := by decide +kernel
theorem dL_law_194 : decode cL_law 194 = .ok (.invokevirtual 22, 3) := by decide +kernel
theorem dL_law_197 : decode cL_law 197 = .ok (.if_icmp .eq 402, 3) := by decide +kernel
theorem dL_law_200 : decode cL_law 200 = .ok (.iconst 0, 1) := by decide +kernel
theorem dL_law_201 : decode cL_law 201 = .ok (.ireturn, 1) := by decide +kernel
theorem dL_law_202 : decode cL_law 202 = .ok (.aload_n 1, 1) := by decide +kernel
theorem dL_law_203 : decode cL_law 203 = .ok (.aload_n 0, 1) := by decide +kernel
theorem dL_law_204 : decode cL_law 204 = .ok (.iload_n 3, 1) := by decide +kernel
theorem dL_law_205 : decode cL_law 205 = .ok (.iconst 1, 1) := by decide +kernel
theorem dL_law_206 : decode cL_law 206 = .ok (.iadd, 1) := by decide +kernel
theorem dL_law_207 : decode cL_law 207 = .ok (.iaload, 1) := by decide +kernel
theorem dL_law_208 : decode cL_law 208 = .ok (.invokevirtual 23, 3) := by decide +kernel
theorem dL_law_211 : decode cL_law 211 = .ok (.aload_n 2, 1) := by decide +kernel
theorem dL_law_212 : decode cL_law 212 = .ok (.aload_n 0, 1) := by decide +kernel
theorem dL_law_213 : decode cL_law 213 = .ok (.iload_n 3, 1) := by decide +kernel
theorem dL_law_214 : decode cL_law 214 = .ok (.iconst 1, 1) := by decide +kernel
theorem dL_law_215 : decode cL_law 215 = .ok (.iadd, 1) := by decide +kernel
theorem dL_law_216 : decode cL_law 216 = .ok (.iaload, 1) := by decide +kernel
theorem dL_law_217 : decode cL_law 217 = .ok (.invokevirtual 26, 3) := by decide +kernel
theorem dL_law_220 : decode cL_law 220 = .ok (.if_icmp .eq 379, 3) := by decide +kernel
theorem dL_law_223 : decode cL_law 223 = .ok (.iconst 0, 1) := by decide +kernel
theorem dL_law_224 : decode cL_law 224 = .ok (.ireturn, 1) := by decide +kernel
theorem dL_law_225 : decode cL_law 225 = .ok (.aload_n 1, 1) := by decide +kernel
theorem dL_law_226 : decode cL_law 226 = .ok (.invokevirtual 27, 3) := by decide +kernel
theorem dL_law_229 : decode cL_law 229 = .ok (.aload_n 2, 1) := by decide +kernel
theorem dL_law_230 : decode cL_law 230 = .ok (.invokevirtual 31, 3) := by decide +kernel
theorem dL_law_233 : decode cL_law 233 = .ok (.if_icmp .eq 366, 3) := by decide +kernel
theorem dL_law_236 : decode cL_law 236 = .ok (.iconst 0, 1) := by decide +kernel
theorem dL_law_237 : decode cL_law 237 = .ok (.ireturn, 1) := by decide +kernel
theorem dL_law_238 : decode cL_law 238 = .ok (.aload_n 1, 1) := by decide +kernel
theorem dL_law_239 : decode cL_law 239 = .ok (.invokevirtual 32, 3) := by decide +kernel
theorem dL_law_242 : decode cL_law 242 = .ok (.aload_n 2, 1) := by decide +kernel
theorem dL_law_243 : decode cL_law 243 = .ok (.invokevirtual 35, 3) := by decide +kernel
theorem dL_law_246 : decode cL_law 246 = .ok (.if_icmp .eq 353, 3) := by decide +kernel
theorem dL_law_249 : decode cL_law 249 = .ok (.iconst 0, 1) := by decide +kernel
theorem dL_law_250 : decode cL_law 250 = .ok (.ireturn, 1) := by decide +kernel
theorem dL_law_251 : decode cL_law 251 = .ok (.aload_n 1, 1) := by decide +kernel
theorem dL_law_252 : decode cL_law 252 = .ok (.aload_n 0, 1) := by decide +kernel
theorem dL_law_253 : decode cL_law 253 = .ok (.iload_n 3, 1) := by decide +kernel
theorem dL_law_254 : decode cL_law 254 = .ok (.iconst 1, 1) := by decide +kernel
theorem dL_law_255 : decode cL_law 255 = .ok (.iadd, 1) := by decide +kernel
theorem dL_law_256 : decode cL_law 256 = .ok (.iaload, 1) := by decide +kernel
theorem dL_law_257 : decode cL_law 257 = .ok (.aload_n 0, 1) := by decide +kernel
theorem dL_law_258 : decode cL_law 258 = .ok (.iload_n 3, 1) := by decide +kernel
theorem dL_law_259 : decode cL_law 259 = .ok (.iconst 2, 1) := by decide +kernel
theorem dL_law_260 : decode cL_law 260 = .ok (.iadd, 1) := by decide +kernel
theorem dL_law_261 : decode cL_law 261 = .ok (.iaload, 1) := by decide +kernel
theorem dL_law_262 : decode cL_law 262 = .ok (.invokevirtual 36, 3) := by decide +kernel
theorem dL_law_265 : decode cL_law 265 = .ok (.aload_n 2, 1) := by decide +kernel
theorem dL_law_266 : decode cL_law 266 = .ok (.aload_n 0, 1) := by decide +kernel
theorem dL_law_267 : decode cL_law 267 = .ok (.iload_n 3, 1) := by decide +kernel
theorem dL_law_268 : decode cL_law 268 = .ok (.iconst 1, 1) := by decide +kernel
theorem dL_law_269 : decode cL_law 269 = .ok (.iadd, 1) := by decide +kernel
theorem dL_law_270 : decode cL_law 270 = .ok (.iaload, 1) := by decide +kernel
theorem dL_law_271 : decode cL_law 271 = .ok (.aload_n 0, 1) := by decide +kernel
theorem dL_law_272 : decode cL_law 272 = .ok (.iload_n 3, 1) := by decide +kernel
theorem dL_law_273 : decode cL_law 273 = .ok (.iconst 2, 1) := by decide +kernel
theorem dL_law_274 : decode cL_law 274 = .ok (.iadd, 1) := by decide +kernel
theorem dL_law_275 : decode cL_law 275 = .ok (.iaload, 1) := by decide +kernel
theorem dL_law_276 : decode cL_law 276 = .ok (.invokevirtual 40, 3) := by decide +kernel
theorem dL_law_279 : decode cL_law 279 = .ok (.if_icmp .eq 320, 3) := by decide +kernel
theorem dL_law_282 : decode cL_law 282 = .ok (.iconst 0, 1) := by decide +kernel
theorem dL_law_283 : decode cL_law 283 = .ok (.ireturn, 1) := by decide +kernel
theorem dL_law_284 : decode cL_law 284 = .ok (.aload_n 1, 1) := by decide +kernel
theorem dL_law_285 : decode cL_law 285 = .ok (.aload_n 0, 1) := by decide +kernel
theorem dL_law_286 : decode cL_law 286 = .ok (.iload_n 3, 1) := by decide +kernel
theorem dL_law_287 : decode cL_law 287 = .ok (.iconst 1, 1) := by decide +kernel
theorem dL_law_288 : decode cL_law 288 = .ok (.iadd, 1) := by decide +kernel
theorem dL_law_289 : decode cL_law 289 = .ok (.iaload, 1) := by decide +kernel
theorem dL_law_290 : decode cL_law 290 = .ok (.aload_n 0, 1) := by decide +kernel
theorem dL_law_291 : decode cL_law 291 = .ok (.iload_n 3, 1) := by decide +kernel
theorem dL_law_292 : decode cL_law 292 = .ok (.iconst 2, 1) := by decide +kernel
theorem dL_law_293 : decode cL_law 293 = .ok (.iadd, 1) := by decide +kernel
theorem dL_law_294 : decode cL_law 294 = .ok (.iaload, 1) := by decide +kernel
theorem dL_law_295 : decode cL_law 295 = .ok (.invokevirtual 41, 3) := by decide +kernel
theorem dL_law_298 : decode cL_law 298 = .ok (.aload_n 2, 1) := by decide +kernel
theorem dL_law_299 : decode cL_law 299 = .ok (.aload_n 0, 1) := by decide +kernel
theorem dL_law_300 : decode cL_law 300 = .ok (.iload_n 3, 1) := by decide +kernel
theorem dL_law_301 : decode cL_law 301 = .ok (.iconst 1, 1) := by decide +kernel
theorem dL_law_302 : decode cL_law 302 = .ok (.iadd, 1) := by decide +kernel
theorem dL_law_303 : decode cL_law 303 = .ok (.iaload, 1) := by decide +kernel
theorem dL_law_304 : decode cL_law 304 = .ok (.aload_n 0, 1) := by decide +kernel
theorem dL_law_305 : decode cL_law 305 = .ok (.iload_n 3, 1) := by decide +kernel
theorem dL_law_306 : decode cL_law 306 = .ok (.iconst 2, 1) := by decide +kernel
theorem dL_law_307 : decode cL_law 307 = .ok (.iadd, 1) := by decide +kernel
theorem dL_law_308 : decode cL_law 308 = .ok (.iaload, 1) := by decide +kernel
theorem dL_law_309 : decode cL_law 309 = .ok (.invokevirtual 44, 3) := by decide +kernel
theorem dL_law_312 : decode cL_law 312 = .ok (.if_icmp .eq 287, 3) := by decide +kernel
theorem dL_law_315 : decode cL_law 315 = .ok (.iconst 0, 1) := by decide +kernel
theorem dL_law_316 : decode cL_law 316 = .ok (.ireturn, 1) := by decide +kernel
theorem dL_law_317 : decode cL_law 317 = .ok (.aload_n 1, 1) := by decide +kernel
theorem dL_law_318 : decode cL_law 318 = .ok (.aload_n 0, 1) := by decide +kernel
theorem dL_law_319 : decode cL_law 319 = .ok (.iload_n 3, 1) := by decide +kernel
theorem dL_law_320 : decode cL_law 320 = .ok (.iconst 1, 1) := by decide +kernel
theorem dL_law_321 : decode cL_law 321 = .ok (.iadd, 1) := by decide +kernel
theorem dL_law_322 : decode cL_law 322 = .ok (.iaload, 1) := by decide +kernel
theorem dL_law_323 : decode cL_law 323 = .ok (.aload_n 0, 1) := by decide +kernel
theorem dL_law_324 : decode cL_law 324 = .ok (.iload_n 3, 1) := by decide +kernel
theorem dL_law_325 : decode cL_law 325 = .ok (.iconst 2, 1) := by decide +kernel
theorem dL_law_326 : decode cL_law 326 = .ok (.iadd, 1) := by decide +kernel
theorem dL_law_327 : decode cL_law 327 = .ok (.iaload, 1) := by decide +kernel
theorem dL_law_328 : decode cL_law 328 = .ok (.invokevirtual 45, 3) := by decide +kernel
theorem dL_law_331 : decode cL_law 331 = .ok (.aload_n 2, 1) := by decide +kernel
theorem dL_law_332 : decode cL_law 332 = .ok (.aload_n 0, 1) := by decide +kernel
theorem dL_law_333 : decode cL_law 333 = .ok (.iload_n 3, 1) := by decide +kernel
theorem dL_law_334 : decode cL_law 334 = .ok (.iconst 1, 1) := by decide +kernel
theorem dL_law_335 : decode cL_law 335 = .ok (.iadd, 1) := by decide +kernel
theorem dL_law_336 : decode cL_law 336 = .ok (.iaload, 1) := by decide +kernel
theorem dL_law_337 : decode cL_law 337 = .ok (.aload_n 0, 1) := by decide +kernel
theorem dL_law_338 : decode cL_law 338 = .ok (.iload_n 3, 1) := by decide +kernel
theorem dL_law_339 : decode cL_law 339 = .ok (.iconst 2, 1) := by decide +kernel
theorem dL_law_340 : decode cL_law 340 = .ok (.iadd, 1) := by decide +kernel
theorem dL_law_341 : decode cL_law 341 = .ok (.iaload, 1) := by decide +kernel
theorem dL_law_342 : decode cL_law 342 = .ok (.invokevirtual 48, 3) := by decide +kernel
theorem dL_law_345 : decode cL_law 345 = .ok (.if_icmp .eq 254, 3) := by decide +kernel
theorem dL_law_348 : decode cL_law 348 = .ok (.iconst 0, 1) := by decide +kernel
theorem dL_law_349 : decode cL_law 349 = .ok (.ireturn, 1) := by decide +kernel
theorem dL_law_350 : decode cL_law 350 = .ok (.aload_n 1, 1) := by decide +kernel
theorem dL_law_351 : decode cL_law 351 = .ok (.aload_n 0, 1) := by decide +kernel
theorem dL_law_352 : decode cL_law 352 = .ok (.iload_n 3, 1) := by decide +kernel
theorem dL_law_353 : decode cL_law 353 = .ok (.iconst 1, 1) := by decide +kernel
theorem dL_law_354 : decode cL_law 354 = .ok (.iadd, 1) := by decide +kernel
theorem dL_law_355 : decode cL_law 355 = .ok (.iaload, 1) := by decide +kernel
theorem dL_law_356 : decode cL_law 356 = .ok (.aload_n 0, 1) := by decide +kernel
theorem dL_law_357 : decode cL_law 357 = .ok (.iload_n 3, 1) := by decide +kernel
theorem dL_law_358 : decode cL_law 358 = .ok (.iconst 2, 1) := by decide +kernel
theorem dL_law_359 : decode cL_law 359 = .ok (.iadd, 1) := by decide +kernel
theorem dL_law_360 : decode cL_law 360 = .ok (.iaload, 1) := by decide +kernel
theorem dL_law_361 : decode cL_law 361 = .ok (.invokevirtual 49, 3) := by decide +kernel
theorem dL_law_364 : decode cL_law 364 = .ok (.aload_n 2, 1) := by decide +kernel
theorem dL_law_365 : decode cL_law 365 = .ok (.aload_n 0, 1) := by decide +kernel
theorem dL_law_366 : decode cL_law 366 = .ok (.iload_n 3, 1) := by decide +kernel
theorem dL_law_367 : decode cL_law 367 = .ok (.iconst 1, 1) := by decide +kernel
theorem dL_law_368 : decode cL_law 368 = .ok (.iadd, 1) := by decide +kernel
theorem dL_law_369 : decode cL_law 369 = .ok (.iaload, 1) := by decide +kernel
theorem dL_law_370 : decode cL_law 370 = .ok (.aload_n 0, 1) := by decide +kernel
theorem dL_law_371 : decode cL_law 371 = .ok (.iload_n 3, 1) := by decide +kernel
theorem dL_law_372 : decode cL_law 372 = .ok (.iconst 2, 1) := by decide +kernel
theorem dL_law_373 : decode cL_law 373 = .ok (.iadd, 1) := by decide +kernel
theorem dL_law_374 : decode cL_law 374 = .ok (.iaload, 1) := by decide +kernel
theorem dL_law_375 : decode cL_law 375 = .ok (.invokevirtual 52, 3) := by decide +kernel
theorem dL_law_378 : decode cL_law 378 = .ok (.if_icmp .eq 221, 3) := by decide +kernel
theorem dL_law_381 : decode cL_law 381 = .ok (.iconst 0, 1) := by decide +kernel
theorem dL_law_382 : decode cL_law 382 = .ok (.ireturn, 1) := by decide +kernel
theorem dL_law_383 : decode cL_law 383 = .ok (.aload_n 1, 1) := by decide +kernel
theorem dL_law_384 : decode cL_law 384 = .ok (.aload_n 0, 1) := by decide +kernel
theorem dL_law_385 : decode cL_law 385 = .ok (.iload_n 3, 1) := by decide +kernel
theorem dL_law_386 : decode cL_law 386 = .ok (.iconst 1, 1) := by decide +kernel
theorem dL_law_387 : decode cL_law 387 = .ok (.iadd, 1) := by decide +kernel
theorem dL_law_388 : decode cL_law 388 = .ok (.iaload, 1) := by decide +kernel
theorem dL_law_389 : decode cL_law 389 = .ok (.invokevirtual 53, 3) := by decide +kernel
theorem dL_law_392 : decode cL_law 392 = .ok (.aload_n 2, 1) := by decide +kernel
theorem dL_law_393 : decode cL_law 393 = .ok (.aload_n 0, 1) := by decide +kernel
theorem dL_law_394 : decode cL_law 394 = .ok (.iload_n 3, 1) := by decide +kernel
theorem dL_law_395 : decode cL_law 395 = .ok (.iconst 1, 1) := by decide +kernel
theorem dL_law_396 : decode cL_law 396 = .ok (.iadd, 1) := by decide +kernel
theorem dL_law_397 : decode cL_law 397 = .ok (.iaload, 1) := by decide +kernel
theorem dL_law_398 : decode cL_law 398 = .ok (.invokevirtual 56, 3) := by decide +kernel
theorem dL_law_401 : decode cL_law 401 = .ok (.if_icmp .eq 198, 3) := by decide +kernel
theorem dL_law_404 : decode cL_law 404 = .ok (.iconst 0, 1) := by decide +kernel
theorem dL_law_405 : decode cL_law 405 = .ok (.ireturn, 1) := by decide +kernel
theorem dL_law_406 : decode cL_law 406 = .ok (.aload_n 1, 1) := by decide +kernel
theorem dL_law_407 : decode cL_law 407 = .ok (.aload_n 0, 1) := by decide +kernel
theorem dL_law_408 : decode cL_law 408 = .ok (.iload_n 3, 1) := by decide +kernel
theorem dL_law_409 : decode cL_law 409 = .ok (.iconst 1, 1) := by decide +kernel
theorem dL_law_410 : decode cL_law 410 = .ok (.iadd, 1) := by decide +kernel
theorem dL_law_411 : decode cL_law 411 = .ok (.iaload, 1) := by decide +kernel
theorem dL_law_412 : decode cL_law 412 = .ok (.invokevirtual 57, 3) := by decide +kernel
theorem dL_law_415 : decode cL_law 415 = .ok (.aload_n 2, 1) := by decide +kernel
theorem dL_law_416 : decode cL_law 416 = .ok (.aload_n 0, 1) := by decide +kernel
theorem dL_law_417 : decode cL_law 417 = .ok (.iload_n 3, 1) := by decide +kernel
theorem dL_law_418 : decode cL_law 418 = .ok (.iconst 1, 1) := by decide +kernel
theorem dL_law_419 : decode cL_law 419 = .ok (.iadd, 1) := by decide +kernel
theorem dL_law_420 : decode cL_law 420 = .ok (.iaload, 1) := by decide +kernel
theorem dL_law_421 : decode cL_law 421 = .ok (.invokevirtual 60, 3) := by decide +kernel
theorem dL_law_424 : decode cL_law 424 = .ok (.if_icmp .eq 175, 3) := by decide +kernel
theorem dL_law_427 : decode cL_law 427 = .ok (.iconst 0, 1) := by decide +kernel
theorem dL_law_428 : decode cL_law 428 = .ok (.ireturn, 1) := by decide +kernel
theorem dL_law_429 : decode cL_law 429 = .ok (.aload_n 1, 1) := by decide +kernel
theorem dL_law_430 : decode cL_law 430 = .ok (.aload_n 0, 1) := by decide +kernel
theorem dL_law_431 : decode cL_law 431 = .ok (.iload_n 3, 1) := by decide +kernel
theorem dL_law_432 : decode cL_law 432 = .ok (.iconst 1, 1) := by decide +kernel
theorem dL_law_433 : decode cL_law 433 = .ok (.iadd, 1) := by decide +kernel
theorem dL_law_434 : decode cL_law 434 = .ok (.iaload, 1) := by decide +kernel
theorem dL_law_435 : decode cL_law 435 = .ok (.aload_n 0, 1) := by decide +kernel
theorem dL_law_436 : decode cL_law 436 = .ok (.iload_n 3, 1) := by decide +kernel
theorem dL_law_437 : decode cL_law 437 = .ok (.iconst 2, 1) := by decide +kernel
theorem dL_law_438 : decode cL_law 438 = .ok (.iadd, 1) := by decide +kernel
theorem dL_law_439 : decode cL_law 439 = .ok (.iaload, 1) := by decide +kernel
theorem dL_law_440 : decode cL_law 440 = .ok (.invokevirtual 61, 3) := by decide +kernel
theorem dL_law_443 : decode cL_law 443 = .ok (.aload_n 2, 1) := by decide +kernel
theorem dL_law_444 : decode cL_law 444 = .ok (.aload_n 0, 1) := by decide +kernel
theorem dL_law_445 : decode cL_law 445 = .ok (.iload_n 3, 1) := by decide +kernel
theorem dL_law_446 : decode cL_law 446 = .ok (.iconst 1, 1) := by decide +kernel
theorem dL_law_447 : decode cL_law 447 = .ok (.iadd, 1) := by decide +kernel
theorem dL_law_448 : decode cL_law 448 = .ok (.iaload, 1) := by decide +kernel
theorem dL_law_449 : decode cL_law 449 = .ok (.aload_n 0, 1) := by decide +kernel
theorem dL_law_450 : decode cL_law 450 = .ok (.iload_n 3, 1) := by decide +kernel
theorem dL_law_451 : decode cL_law 451 = .ok (.iconst 2, 1) := by decide +kernel
theorem dL_law_452 : decode cL_law 452 = .ok (.iadd, 1) := by decide +kernel
theorem dL_law_453 : decode cL_law 453 = .ok (.iaload, 1) := by decide +kernel
theorem dL_law_454 : decode cL_law 454 = .ok (.invokevirtual 64, 3) := by decide +kernel
theorem dL_law_457 : decode cL_law 457 = .ok (.if_icmp .eq 142, 3) := by decide +kernel
theorem dL_law_460 : decode cL_law 460 = .ok (.iconst 0, 1) := by decide +kernel
theorem dL_law_461 : decode cL_law 461 = .ok (.ireturn, 1) := by decide +kernel
theorem dL_law_462 : decode cL_law 462 = .ok (.aload_n 1, 1) := by decide +kernel
theorem dL_law_463 : decode cL_law 463 = .ok (.aload_n 0, 1) := by decide +kernel
theorem dL_law_464 : decode cL_law 464 = .ok (.iload_n 3, 1) := by decide +kernel
theorem dL_law_465 : decode cL_law 465 = .ok (.iconst 1, 1) := by decide +kernel
theorem dL_law_466 : decode cL_law 466 = .ok (.iadd, 1) := by decide +kernel
theorem dL_law_467 : decode cL_law 467 = .ok (.iaload, 1) := by decide +kernel
theorem dL_law_468 : decode cL_law 468 = .ok (.invokevirtual 65, 3) := by decide +kernel
theorem dL_law_471 : decode cL_law 471 = .ok (.aload_n 2, 1) := by decide +kernel
theorem dL_law_472 : decode cL_law 472 = .ok (.aload_n 0, 1) := by decide +kernel
theorem dL_law_473 : decode cL_law 473 = .ok (.iload_n 3, 1) := by decide +kernel
theorem dL_law_474 : decode cL_law 474 = .ok (.iconst 1, 1) := by decide +kernel
theorem dL_law_475 : decode cL_law 475 = .ok (.iadd, 1) := by decide +kernel
theorem dL_law_476 : decode cL_law 476 = .ok (.iaload, 1) := by decide +kernel
theorem dL_law_477 : decode cL_law 477 = .ok (.invokevirtual 68, 3) := by decide +kernel
theorem dL_law_480 : decode cL_law 480 = .ok (.if_icmp .eq 119, 3) := by decide +kernel
theorem dL_law_483 : decode cL_law 483 = .ok (.iconst 0, 1) := by decide +kernel
theorem dL_law_484 : decode cL_law 484 = .ok (.ireturn, 1) := by decide +kernel
theorem dL_law_485 : decode cL_law 485 = .ok (.aload_n 1, 1) := by decide +kernel
theorem dL_law_486 : decode cL_law 486 = .ok (.aload_n 0, 1) := by decide +kernel
theorem dL_law_487 : decode cL_law 487 = .ok (.iload_n 3, 1) := by decide +kernel
theorem dL_law_488 : decode cL_law 488 = .ok (.iconst 1, 1) := by decide +kernel
theorem dL_law_489 : decode cL_law 489 = .ok (.iadd, 1) := by decide +kernel
theorem dL_law_490 : decode cL_law 490 = .ok (.iaload, 1) := by decide +kernel
theorem dL_law_491 : decode cL_law 491 = .ok (.aload_n 0, 1) := by decide +kernel
theorem dL_law_492 : decode cL_law 492 = .ok (.iload_n 3, 1) := by decide +kernel
theorem dL_law_493 : decode cL_law 493 = .ok (.iconst 2, 1) := by decide +kernel
theorem dL_law_494 : decode cL_law 494 = .ok (.iadd, 1) := by decide +kernel
theorem dL_law_495 : decode cL_law 495 = .ok (.iaload, 1) := by decide +kernel
theorem dL_law_496 : decode cL_law 496 = .ok (.invokevirtual 69, 3) := by decide +kernel
theorem dL_law_499 : decode cL_law 499 = .ok (.aload_n 2, 1) := by decide +kernel
theorem dL_law_500 : decode cL_law 500 = .ok (.aload_n 0, 1) := by decide +kernel
theorem dL_law_501 : decode cL_law 501 = .ok (.iload_n 3, 1) := by decide +kernel
theorem dL_law_502 : decode cL_law 502 = .ok (.iconst 1, 1) := by decide +kernel
theorem dL_law_503 : decode cL_law 503 = .ok (.iadd, 1) := by decide +kernel
theorem dL_law_504 : decode cL_law 504 = .ok (.iaload, 1) := by decide +kernel
theorem dL_law_505 : decode cL_law 505 = .ok (.aload_n 0, 1) := by decide +kernel
theorem dL_law_506 : decode cL_law 506 = .ok (.iload_n 3, 1) := by decide +kernel
theorem dL_law_507 : decode cL_law 507 = .ok (.iconst 2, 1) := by decide +kernel
theorem dL_law_508 : decode cL_law 508 = .ok (.iadd, 1) := by decide +kernel
theorem dL_law_509 : decode cL_law 509 = .ok (.iaload, 1) := by decide +kernel
theorem dL_law_510 : decode cL_law 510 = .ok (.invokevirtual 72, 3) := by decide +kernel
theorem dL_law_513 : decode cL_law 513 = .ok (.if_icmp .eq 86, 3) := by decide +kernel
theorem dL_law_516 : decode cL_law 516 = .ok (.iconst 0, 1) := by decide +kernel
theorem dL_law_517 : decode cL_law 517 = .ok (.ireturn, 1) := by decide +kernel
theorem dL_law_518 : decode cL_law 518 = .ok (.aload_n 1, 1) := by decide +kernel
theorem dL_law_519 : decode cL_law 519 = .ok (.aload_n 0, 1) := by decide +kernel
theorem dL_law_520 : decode cL_law 520 = .ok (.iload_n 3, 1) := by decide +kernel
theorem dL_law_521 : decode cL_law 521 = .ok (.iconst 1, 1) := by decide +kernel
theorem dL_law_522 : decode cL_law 522 = .ok (.iadd, 1) := by decide +kernel
theorem dL_law_523 : decode cL_law 523 = .ok (.iaload, 1) := by decide +kernel
theorem dL_law_524 : decode cL_law 524 = .ok (.invokevirtual 73, 3) := by decide +kernel
theorem dL_law_527 : decode cL_law 527 = .ok (.aload_n 2, 1) := by decide +kernel
theorem dL_law_528 : decode cL_law 528 = .ok (.aload_n 0, 1) := by decide +kernel
theorem dL_law_529 : decode cL_law 529 = .ok (.iload_n 3, 1) := by decide +kernel
theorem dL_law_530 : decode cL_law 530 = .ok (.iconst 1, 1) := by decide +kernel
theorem dL_law_531 : decode cL_law 531 = .ok (.iadd, 1) := by decide +kernel
theorem dL_law_532 : decode cL_law 532 = .ok (.iaload, 1) := by decide +kernel
theorem dL_law_533 : decode cL_law 533 = .ok (.invokevirtual 77, 3) := by decide +kernel
theorem dL_law_536 : decode cL_law 536 = .ok (.lcmp, 1) := by decide +kernel
theorem dL_law_537 : decode cL_law 537 = .ok (.ifCond .eq 62, 3) := by decide +kernel
theorem dL_law_540 : decode cL_law 540 = .ok (.iconst 0, 1) := by decide +kernel
theorem dL_law_541 : decode cL_law 541 = .ok (.ireturn, 1) := by decide +kernel
theorem dL_law_542 : decode cL_law 542 = .ok (.aload_n 1, 1) := by decide +kernel
theorem dL_law_543 : decode cL_law 543 = .ok (.aload_n 0, 1) := by decide +kernel
theorem dL_law_544 : decode cL_law 544 = .ok (.iload_n 3, 1) := by decide +kernel
theorem dL_law_545 : decode cL_law 545 = .ok (.iconst 1, 1) := by decide +kernel
theorem dL_law_546 : decode cL_law 546 = .ok (.iadd, 1) := by decide +kernel
theorem dL_law_547 : decode cL_law 547 = .ok (.iaload, 1) := by decide +kernel
theorem dL_law_548 : decode cL_law 548 = .ok (.aload_n 0, 1) := by decide +kernel
theorem dL_law_549 : decode cL_law 549 = .ok (.iload_n 3, 1) := by decide +kernel
theorem dL_law_550 : decode cL_law 550 = .ok (.iconst 2, 1) := by decide +kernel
theorem dL_law_551 : decode cL_law 551 = .ok (.iadd, 1) := by decide +kernel
theorem dL_law_552 : decode cL_law 552 = .ok (.iaload, 1) := by decide +kernel
theorem dL_law_553 : decode cL_law 553 = .ok (.invokevirtual 78, 3) := by decide +kernel
theorem dL_law_556 : decode cL_law 556 = .ok (.aload_n 2, 1) := by decide +kernel
theorem dL_law_557 : decode cL_law 557 = .ok (.aload_n 0, 1) := by decide +kernel
theorem dL_law_558 : decode cL_law 558 = .ok (.iload_n 3, 1) := by decide +kernel
theorem dL_law_559 : decode cL_law 559 = .ok (.iconst 1, 1) := by decide +kernel
theorem dL_law_560 : decode cL_law 560 = .ok (.iadd, 1) := by decide +kernel
theorem dL_law_561 : decode cL_law 561 = .ok (.iaload, 1) := by decide +kernel
theorem dL_law_562 : decode cL_law 562 = .ok (.aload_n 0, 1) := by decide +kernel
theorem dL_law_563 : decode cL_law 563 = .ok (.iload_n 3, 1) := by decide +kernel
theorem dL_law_564 : decode cL_law 564 = .ok (.iconst 2, 1) := by decide +kernel
theorem dL_law_565 : decode cL_law 565 = .ok (.iadd, 1) := by decide +kernel
theorem dL_law_566 : decode cL_law 566 = .ok (.iaload, 1) := by decide +kernel
theorem dL_law_567 : decode cL_law 567 = .ok (.invokevirtual 82, 3) := by decide +kernel
theorem dL_law_570 : decode cL_law 570 = .ok (.lcmp, 1) := by decide +kernel
theorem dL_law_571 : decode cL_law 571 = .ok (.ifCond .eq 28, 3) := by decide +kernel
theorem dL_law_574 : decode cL_law 574 = .ok (.iconst 0, 1) := by decide +kernel
theorem dL_law_575 : decode cL_law 575 = .ok (.ireturn, 1) := by decide +kernel
theorem dL_law_576 : decode cL_law 576 = .ok (.aload_n 1, 1) := by decide +kernel
theorem dL_law_577 : decode cL_law 577 = .ok (.aload_n 0, 1) := by decide +kernel
theorem dL_law_578 : decode cL_law 578 = .ok (.iload_n 3, 1) := by decide +kernel
theorem dL_law_579 : decode cL_law 579 = .ok (.iconst 1, 1) := by decide +kernel
theorem dL_law_580 : decode cL_law 580 = .ok (.iadd, 1) := by decide +kernel
theorem dL_law_581 : decode cL_law 581 = .ok (.iaload, 1) := by decide +kernel
theorem dL_law_582 : decode cL_law 582 = .ok (.invokevirtual 83, 3) := by decide +kernel
theorem dL_law_585 : decode cL_law 585 = .ok (.aload_n 2, 1) := by decide +kernel
theorem dL_law_586 : decode cL_law 586 = .ok (.aload_n 0, 1) := by decide +kernel
theorem dL_law_587 : decode cL_law 587 = .ok (.iload_n 3, 1) := by decide +kernel
theorem dL_law_588 : decode cL_law 588 = .ok (.iconst 1, 1) := by decide +kernel
theorem dL_law_589 : decode cL_law 589 = .ok (.iadd, 1) := by decide +kernel
theorem dL_law_590 : decode cL_law 590 = .ok (.iaload, 1) := by decide +kernel
theorem dL_law_591 : decode cL_law 591 = .ok (.invokevirtual 86, 3) := by decide +kernel
theorem dL_law_594 : decode cL_law 594 = .ok (.if_icmp .eq 5, 3) := by decide +kernel
theorem dL_law_597 : decode cL_law 597 = .ok (.iconst 0, 1) := by decide +kernel
theorem dL_law_598 : decode cL_law 598 = .ok (.ireturn, 1) := by decide +kernel
theorem dL_law_599 : decode cL_law 599 = .ok (.iinc 3 6, 3) := by decide +kernel
theorem dL_law_602 : decode cL_law 602 = .ok (.goto (-584), 3) := by decide +kernel
theorem dL_law_605 : decode cL_law 605 = .ok (.iconst 1, 1) := by decide +kernel
theorem dL_law_606 : decode cL_law 606 = .ok (.ireturn, 1) := by decide +kernel
set_option maxHeartbeats 4000000 in
set_option maxRecDepth 100000 in
theorem law_loop {p : Program} {e : Env} {s : State} {m : MethodId} {below : List Frame} {meth : Method} {c : Code} {l : Launch} {b L : Nat} {xs : Nat → Int32} (hL : L ≤ 384) (C0 : lw_At p s m meth c b L xs) {dC : Nat → ClassId} {dI : Nat → Nat → Nat} {cB cI : ClassId} (hK : va_K (dC, dI) vwCl [(cB, .byte), (cI, .int)] s) (hN : NW s) (hT : ST (fun q : Nat => s.heap.size ≤ q) s s.heap) {q0 m0 : Nat} {Rel : va_W → va_W → Prop} (hRF : ∀ wF wM, Rel wF wM → (∃ fs, wF[0]? = some (q0, .inr (9, fs))) ∧ ∃ fs, wM[0]? = some (m0, .inr (10, fs))) (h_0 : ∀ a1 a2 a3 a4 a5 : Int32, OpI l dC dI cB cI Rel yX11_feed cX11_feed 6 rm_FB_feed yX12_feed cX12_feed 6 rm_Mo_feed q0 m0 [.int a1, .int a2, .int a3, .int a4, .int a5]) (h_1 : ∀ a1 : Int32, OpI l dC dI cB cI Rel yX11_cut cX11_cut 3 rm_FB_cut yX12_cut cX12_cut 3 rm_Mo_cut q0 m0 [.int a1]) (h_2 : ∀ a1 : Int32, OpI l dC dI cB cI Rel yX11_out cX11_out 2 rm_FB_out yX12_out cX12_out 2 rm_Mo_out q0 m0 [.int a1]) (h_3 : OpI l dC dI cB cI Rel yX11_back cX11_back 1 rm_FB_back yX12_back cX12_back 1 rm_Mo_back q0 m0 []) (h_4 : OpI l dC dI cB cI Rel yX11_dictionary cX11_dictionary 1 rm_FB_dictionary yX12_dictionary cX12_dictionary 1 rm_Mo_dictionary q0 m0 []) (h_5 : ∀ a1 a2 : Int32, OpI l dC dI cB cI Rel yX11_set cX11_set 4 rm_FB_set yX12_set cX12_set 5 rm_Mo_set q0 m0 [.int a1, .int a2]) (h_6 : ∀ a1 a2 : Int32, OpI l dC dI cB cI Rel yX11_pack cX11_pack 3 rm_FB_pack yX12_pack cX12_pack 3 rm_Mo_pack q0 m0 [.int a1, .int a2]) (h_7 : ∀ a1 a2 : Int32, OpI l dC dI cB cI Rel yX11_more cX11_more 3 rm_FB_more yX12_more cX12_more 5 rm_Mo_more q0 m0 [.int a1, .int a2]) (h_8 : ∀ a1 a2 : Int32, OpI l dC dI cB cI Rel yX11_skip cX11_skip 6 rm_FB_skip yX12_skip cX12_skip 5 rm_Mo_skip q0 m0 [.int a1, .int a2]) (h_9 : ∀ a1 : Int32, OpI l dC dI cB cI Rel yX11_open cX11_open 3 rm_FB_open yX12_open cX12_open 3 rm_Mo_open q0 m0 [.int a1]) (h_10 : ∀ a1 : Int32, OpI l dC dI cB cI Rel yX11_rule cX11_rule 2 rm_FB_rule yX12_rule cX12_rule 2 rm_Mo_rule q0 m0 [.int a1]) (h_11 : ∀ a1 a2 : Int32, OpI l dC dI cB cI Rel yX11_block cX11_block 3 rm_FB_block yX12_block cX12_block 3 rm_Mo_block q0 m0 [.int a1, .int a2]) (h_12 : ∀ a1 : Int32, OpI l dC dI cB cI Rel yX11_longest cX11_longest 2 rm_FB_longest yX12_longest cX12_longest 2 rm_Mo_longest q0 m0 [.int a1]) (h_13 : ∀ a1 a2 : Int32, OpI l dC dI cB cI Rel yX11_near cX11_near 4 rm_FB_near yX12_near cX12_near 3 rm_Mo_near q0 m0 [.int a1, .int a2]) (h_14 : ∀ a1 : Int32, OpL l dC dI cB cI Rel yX11_sum cX11_sum 2 rm_FB_sum yX12_sum cX12_sum 3 rm_Mo_sum q0 m0 [.int a1]) (h_15 : ∀ a1 a2 : Int32, OpL l dC dI cB cI Rel yX11_bound cX11_bound 3 rm_FB_bound yX12_bound cX12_bound 3 rm_Mo_bound q0 m0 [.int a1, .int a2]) (h_16 : ∀ a1 : Int32, OpI l dC dI cB cI Rel yX11_told cX11_told 2 rm_FB_told yX12_told cX12_told 2 rm_Mo_told q0 m0 [.int a1]) : ∀ (n i : Nat) (x3 : Int32) (wF wM : va_W) (H : Heap) (locs : List Loc) (ls : Array Slot), L + 12 - i < n → i ≤ L + 6 → x3 = nI i → Rel wF wM → va_P (dC, dI) vwCl (wF ++ wM) H → va_D (fun q : Nat => s.heap.size ≤ q) (wF ++ wM) → va_S (fun q : Nat => s.heap.size ≤ q) s.heap H locs → lv_has ls 4 [(0, .ref b), (1, .ref q0), (2, .ref m0), (3, .int x3)] → W p l e room_1 s m #[Value.ref b] below meth c H locs 52 487534 (lw_Z below #[Value.ref b] s) (F0 m 18 ls []) := by
  obtain ⟨hx, hb, hr, hml, hown, hts0, hX, hbl, hlocks, hgv⟩ := id C0
  have hown : s.vm.findClass RL = some m.cls := hown
  have hts : ∀ w ∈ lw_G, w.before #[Value.ref b] s = true := fun w hw => hts0 w (List.mem_filter.mp hw).1
  have hA : ∀ q : Nat, s.heap.size ≤ q → (fun q : Nat => s.heap.size ≤ q) q := fun _ h => h
  have hbA : ¬ (fun q : Nat => s.heap.size ≤ q) b := Nat.not_le.mpr hbl
  intro n
  induction n with
  | zero => intro i x3 wF wM H locs ls h; exact absurd h (Nat.not_lt_zero _)
  | succ n ih =>
  intro i x3 wF wM H locs ls hn hi ex3 hRel hP hD hS hl
  have hJ : ∀ (wF wM : va_W) (H : Heap) (locs : List Loc) (ls : Array Slot), i + 6 ≤ L → Rel wF wM → va_P (dC, dI) vwCl (wF ++ wM) H → va_D (fun q : Nat => s.heap.size ≤ q) (wF ++ wM) → va_S (fun q : Nat => s.heap.size ≤ q) s.heap H locs → lv_has ls 4 [(0, .ref b), (1, .ref q0), (2, .ref m0), (3, .int x3)] → W p l e room_1 s m #[Value.ref b] below meth c H locs 52 487534 (lw_Z below #[Value.ref b] s) (F0 m 599 ls []) := by
    intro wF wM H locs ls hlt hRel hP hD hS hl
    obtain ⟨x4, ex4⟩ : ∃ y : Int32, y = x3 + 6 := ⟨_, rfl⟩
    refine lv_iinc (v := x4) (lv' := [(3, .int x4), (0, .ref b), (1, .ref q0), (2, .ref m0)]) hx hb dL_law_599 hl (k := 3) rfl (by rw [ex4]; rfl) (by decide) rfl (fun ls hl => ?_)
    refine lv_goto (tgt := 18) hx hb dL_law_602 (by decide) ?_
    exact ih (i + 6) x4 wF wM H locs ls (by omega) (by omega) (by rw [ex4, ex3]; exact nI_add i 6) hRel hP hD hS (lv_sub hl [1, 2, 3, 0] rfl)
  refine lv_iload_n hx hb dL_law_18 rfl (lv_at hl 3 rfl) ?_
  refine lv_aload_n hx hb dL_law_19 rfl (lv_at hl 0 rfl) ?_
  refine va_slen hx hb hX hbl hbA hS dL_law_20 ?_
  refine lv_bipush (v := 6) hx hb dL_law_21 (by decide) ?_
  refine lv_isub hx hb dL_law_23 ?_
  have hLs : (Int32.ofNat L - 6).toInt = (L : Int) - 6 := pk_sub_toInt (a := L) (b := 6) (by omega) (by omega)
  have hx3 : x3.toInt = (i : Int) := by rw [ex3]; exact nI_toInt (by omega)
  refine lv_icmp_gt (tgt := 605) hx hb dL_law_24 (by decide) (fun c_24 => ?_) (fun c_24 => ?_)
  · refine lv_iconst (v := 1) hx hb dL_law_605 (by decide) ?_
    refine va_forget (fun q hq => hS.2.2 q hq) ?_
    refine W.widen (k := 600000) (n := 7302250) (Nat.le_of_ble_eq_true rfl) (Nat.le_of_ble_eq_true rfl) ?_
    exact lw_ret hx hb hr hlocks dL_law_606
  · have hlt : i + 6 ≤ L := by
      rw [Int32.lt_iff_toInt_lt, hLs, hx3] at c_24
      omega
    have g_0 : vp_in x3 L := by rw [ex3]; exact vp_in_nI (by omega) (by omega)
    have g_1 : vp_in (x3 + 1) L := by rw [ex3, show nI i + 1 = nI (i + 1) from nI_add i 1]; exact vp_in_nI (by omega) (by omega)
    have g_2 : vp_in (x3 + 2) L := by rw [ex3, show nI i + 2 = nI (i + 2) from nI_add i 2]; exact vp_in_nI (by omega) (by omega)
    have g_3 : vp_in (x3 + 3) L := by rw [ex3, show nI i + 3 = nI (i + 3) from nI_add i 3]; exact vp_in_nI (by omega) (by omega)
    have g_4 : vp_in (x3 + 4) L := by rw [ex3, show nI i + 4 = nI (i + 4) from nI_add i 4]; exact vp_in_nI (by omega) (by omega)
    have g_5 : vp_in (x3 + 5) L := by rw [ex3, show nI i + 5 = nI (i + 5) from nI_add i 5]; exact vp_in_nI (by omega) (by omega)
    refine lv_aload_n hx hb dL_law_27 rfl (lv_at hl 0 rfl) ?_
    refine lv_iload_n hx hb dL_law_28 rfl (lv_at hl 3 rfl) ?_
    refine va_sld hx hb hX hbl hbA hS g_0 dL_law_29 ?_
    refine lv_bipush (v := 31) hx hb dL_law_30 (by decide) ?_
    refine lv_iand hx hb dL_law_32 ?_
    refine lv_topi (fun z ez => ?_)
    obtain ⟨⟨fsF, heF⟩, fsM, heM⟩ := hRF wF wM hRel
    by_cases c_0 : z = 0
    · refine lv_tableIn (tgt := 116) hx hb dL_law_33 (by rw [c_0]; decide) (by rw [c_0]; decide) (by rw [c_0]; rfl) (by decide) ?_
      refine lv_aload_n hx hb dL_law_116 rfl (lv_at hl 1 rfl) ?_
      refine lv_aload_n hx hb dL_law_117 rfl (lv_at hl 0 rfl) ?_
      refine lv_iload_n hx hb dL_law_118 rfl (lv_at hl 3 rfl) ?_
      refine lv_iconst (v := 1) hx hb dL_law_119 (by decide) ?_
      refine lv_iadd hx hb dL_law_120 ?_
      refine va_sld hx hb hX hbl hbA hS g_1 dL_law_121 ?_
      refine lv_aload_n hx hb dL_law_122 rfl (lv_at hl 0 rfl) ?_
      refine lv_iload_n hx hb dL_law_123 rfl (lv_at hl 3 rfl) ?_
      refine lv_iconst (v := 2) hx hb dL_law_124 (by decide) ?_
      refine lv_iadd hx hb dL_law_125 ?_
      refine va_sld hx hb hX hbl hbA hS g_2 dL_law_126 ?_
      refine lv_aload_n hx hb dL_law_127 rfl (lv_at hl 0 rfl) ?_
      refine lv_iload_n hx hb dL_law_128 rfl (lv_at hl 3 rfl) ?_
      refine lv_iconst (v := 3) hx hb dL_law_129 (by decide) ?_
      refine lv_iadd hx hb dL_law_130 ?_
      refine va_sld hx hb hX hbl hbA hS g_3 dL_law_131 ?_
      refine lv_aload_n hx hb dL_law_132 rfl (lv_at hl 0 rfl) ?_
      refine lv_iload_n hx hb dL_law_133 rfl (lv_at hl 3 rfl) ?_
      refine lv_iconst (v := 4) hx hb dL_law_134 (by decide) ?_
      refine lv_iadd hx hb dL_law_135 ?_
      refine va_sld hx hb hX hbl hbA hS g_4 dL_law_136 ?_
      refine lv_aload_n hx hb dL_law_137 rfl (lv_at hl 0 rfl) ?_
      refine lv_iload_n hx hb dL_law_138 rfl (lv_at hl 3 rfl) ?_
      refine lv_iconst (v := 5) hx hb dL_law_139 (by decide) ?_
      refine lv_iadd hx hb dL_law_140 ?_
      refine va_sld hx hb hX hbl hbA hS g_5 dL_law_141 ?_
      obtain ⟨r, wF1, wM1, hRel1, hMF, hMM⟩ := h_0 (xs (x3 + 1).toNatClampNeg) (xs (x3 + 2).toNatClampNeg) (xs (x3 + 3).toNatClampNeg) (xs (x3 + 4).toNatClampNeg) (xs (x3 + 5).toNatClampNeg) wF wM hRel
      refine lc_i (As := [.int (xs (x3 + 1).toNatClampNeg), .int (xs (x3 + 2).toNatClampNeg), .int (xs (x3 + 3).toNatClampNeg), .int (xs (x3 + 4).toNatClampNeg), .int (xs (x3 + 5).toNatClampNeg)]) (rest := []) (n := 5) (ci := 9) ⟨hx, hb, hml, hown, hts⟩ (hMF _) (wV kw_385 kw_386 kw_387 kw_82 kw_388) (by decide +kernel) ⟨Nat.le_of_ble_eq_true rfl, Nat.le_of_ble_eq_true rfl⟩ hK hP hD hN hT hS hA rfl heF rfl hl.1 rfl (lv_room (Nat.le_of_ble_eq_true rfl)) dL_law_142 ⟨Nat.le_of_ble_eq_true rfl, Nat.le_of_ble_eq_true rfl⟩ rfl rfl rfl (fun H locs hP hD hS => ?_)
      refine lv_aload_n hx hb dL_law_145 rfl (lv_at hl 2 rfl) ?_
      refine lv_aload_n hx hb dL_law_146 rfl (lv_at hl 0 rfl) ?_
      refine lv_iload_n hx hb dL_law_147 rfl (lv_at hl 3 rfl) ?_
      refine lv_iconst (v := 1) hx hb dL_law_148 (by decide) ?_
      refine lv_iadd hx hb dL_law_149 ?_
      refine va_sld hx hb hX hbl hbA hS g_1 dL_law_150 ?_
      refine lv_aload_n hx hb dL_law_151 rfl (lv_at hl 0 rfl) ?_
      refine lv_iload_n hx hb dL_law_152 rfl (lv_at hl 3 rfl) ?_
      refine lv_iconst (v := 2) hx hb dL_law_153 (by decide) ?_
      refine lv_iadd hx hb dL_law_154 ?_
      refine va_sld hx hb hX hbl hbA hS g_2 dL_law_155 ?_
      refine lv_aload_n hx hb dL_law_156 rfl (lv_at hl 0 rfl) ?_
      refine lv_iload_n hx hb dL_law_157 rfl (lv_at hl 3 rfl) ?_
      refine lv_iconst (v := 3) hx hb dL_law_158 (by decide) ?_
      refine lv_iadd hx hb dL_law_159 ?_
      refine va_sld hx hb hX hbl hbA hS g_3 dL_law_160 ?_
      refine lv_aload_n hx hb dL_law_161 rfl (lv_at hl 0 rfl) ?_
      refine lv_iload_n hx hb dL_law_162 rfl (lv_at hl 3 rfl) ?_
      refine lv_iconst (v := 4) hx hb dL_law_163 (by decide) ?_
      refine lv_iadd hx hb dL_law_164 ?_
      refine va_sld hx hb hX hbl hbA hS g_4 dL_law_165 ?_
      refine lv_aload_n hx hb dL_law_166 rfl (lv_at hl 0 rfl) ?_
      refine lv_iload_n hx hb dL_law_167 rfl (lv_at hl 3 rfl) ?_
      refine lv_iconst (v := 5) hx hb dL_law_168 (by decide) ?_
      refine lv_iadd hx hb dL_law_169 ?_
      refine va_sld hx hb hX hbl hbA hS g_5 dL_law_170 ?_
      refine lc_i (As := [.int (xs (x3 + 1).toNatClampNeg), .int (xs (x3 + 2).toNatClampNeg), .int (xs (x3 + 3).toNatClampNeg), .int (xs (x3 + 4).toNatClampNeg), .int (xs (x3 + 5).toNatClampNeg)]) (rest := [.int r]) (n := 5) (ci := 10) ⟨hx, hb, hml, hown, hts⟩ (hMM _) (wV kw_1149 kw_1150 kw_1151 kw_94 kw_1152) (by decide +kernel) ⟨Nat.le_of_ble_eq_true rfl, Nat.le_of_ble_eq_true rfl⟩ hK hP hD hN hT hS hA rfl heM rfl hl.1 rfl (lv_room (Nat.le_of_ble_eq_true rfl)) dL_law_171 ⟨Nat.le_of_ble_eq_true rfl, Nat.le_of_ble_eq_true rfl⟩ rfl rfl rfl (fun H locs hP hD hS => ?_)
      refine lv_icmp_eq (tgt := 599) hx hb dL_law_174 (by decide) (fun _ => ?_) (fun q => absurd rfl q)
      exact hJ wF1 wM1 H locs ls hlt hRel1 hP hD hS hl
    by_cases c_1 : z = 1
    · refine lv_tableIn (tgt := 179) hx hb dL_law_33 (by rw [c_1]; decide) (by rw [c_1]; decide) (by rw [c_1]; rfl) (by decide) ?_
      refine lv_aload_n hx hb dL_law_179 rfl (lv_at hl 1 rfl) ?_
      refine lv_aload_n hx hb dL_law_180 rfl (lv_at hl 0 rfl) ?_
      refine lv_iload_n hx hb dL_law_181 rfl (lv_at hl 3 rfl) ?_
      refine lv_iconst (v := 1) hx hb dL_law_182 (by decide) ?_
      refine lv_iadd hx hb dL_law_183 ?_
      refine va_sld hx hb hX hbl hbA hS g_1 dL_law_184 ?_
      obtain ⟨r, wF1, wM1, hRel1, hMF, hMM⟩ := h_1 (xs (x3 + 1).toNatClampNeg) wF wM hRel
      refine lc_i (As := [.int (xs (x3 + 1).toNatClampNeg)]) (rest := []) (n := 1) (ci := 9) ⟨hx, hb, hml, hown, hts⟩ (hMF _) (wV kw_405 kw_406 kw_407 kw_82 kw_408) (by decide +kernel) ⟨Nat.le_of_ble_eq_true rfl, Nat.le_of_ble_eq_true rfl⟩ hK hP hD hN hT hS hA rfl heF rfl hl.1 rfl (lv_room (Nat.le_of_ble_eq_true rfl)) dL_law_185 ⟨Nat.le_of_ble_eq_true rfl, Nat.le_of_ble_eq_true rfl⟩ rfl rfl rfl (fun H locs hP hD hS => ?_)
      refine lv_aload_n hx hb dL_law_188 rfl (lv_at hl 2 rfl) ?_
      refine lv_aload_n hx hb dL_law_189 rfl (lv_at hl 0 rfl) ?_
      refine lv_iload_n hx hb dL_law_190 rfl (lv_at hl 3 rfl) ?_
      refine lv_iconst (v := 1) hx hb dL_law_191 (by decide) ?_
      refine lv_iadd hx hb dL_law_192 ?_
      refine va_sld hx hb hX hbl hbA hS g_1 dL_law_193 ?_
      refine lc_i (As := [.int (xs (x3 + 1).toNatClampNeg)]) (rest := [.int r]) (n := 1) (ci := 10) ⟨hx, hb, hml, hown, hts⟩ (hMM _) (wV kw_1157 kw_1158 kw_1159 kw_94 kw_1160) (by decide +kernel) ⟨Nat.le_of_ble_eq_true rfl, Nat.le_of_ble_eq_true rfl⟩ hK hP hD hN hT hS hA rfl heM rfl hl.1 rfl (lv_room (Nat.le_of_ble_eq_true rfl)) dL_law_194 ⟨Nat.le_of_ble_eq_true rfl, Nat.le_of_ble_eq_true rfl⟩ rfl rfl rfl (fun H locs hP hD hS => ?_)
      refine lv_icmp_eq (tgt := 599) hx hb dL_law_197 (by decide) (fun _ => ?_) (fun q => absurd rfl q)
      exact hJ wF1 wM1 H locs ls hlt hRel1 hP hD hS hl
    by_cases c_2 : z = 2
    · refine lv_tableIn (tgt := 202) hx hb dL_law_33 (by rw [c_2]; decide) (by rw [c_2]; decide) (by rw [c_2]; rfl) (by decide) ?_
      refine lv_aload_n hx hb dL_law_202 rfl (lv_at hl 1 rfl) ?_
      refine lv_aload_n hx hb dL_law_203 rfl (lv_at hl 0 rfl) ?_
      refine lv_iload_n hx hb dL_law_204 rfl (lv_at hl 3 rfl) ?_
      refine lv_iconst (v := 1) hx hb dL_law_205 (by decide) ?_
      refine lv_iadd hx hb dL_law_206 ?_
      refine va_sld hx hb hX hbl hbA hS g_1 dL_law_207 ?_
      obtain ⟨r, wF1, wM1, hRel1, hMF, hMM⟩ := h_2 (xs (x3 + 1).toNatClampNeg) wF wM hRel
      refine lc_i (As := [.int (xs (x3 + 1).toNatClampNeg)]) (rest := []) (n := 1) (ci := 9) ⟨hx, hb, hml, hown, hts⟩ (hMF _) (wV kw_413 kw_414 kw_415 kw_82 kw_416) (by decide +kernel) ⟨Nat.le_of_ble_eq_true rfl, Nat.le_of_ble_eq_true rfl⟩ hK hP hD hN hT hS hA rfl heF rfl hl.1 rfl (lv_room (Nat.le_of_ble_eq_true rfl)) dL_law_208 ⟨Nat.le_of_ble_eq_true rfl, Nat.le_of_ble_eq_true rfl⟩ rfl rfl rfl (fun H locs hP hD hS => ?_)
      refine lv_aload_n hx hb dL_law_211 rfl (lv_at hl 2 rfl) ?_
      refine lv_aload_n hx hb dL_law_212 rfl (lv_at hl 0 rfl) ?_
      refine lv_iload_n hx hb dL_law_213 rfl (lv_at hl 3 rfl) ?_
      refine lv_iconst (v := 1) hx hb dL_law_214 (by decide) ?_
      refine lv_iadd hx hb dL_law_215 ?_
      refine va_sld hx hb hX hbl hbA hS g_1 dL_law_216 ?_
      refine lc_i (As := [.int (xs (x3 + 1).toNatClampNeg)]) (rest := [.int r]) (n := 1) (ci := 10) ⟨hx, hb, hml, hown, hts⟩ (hMM _) (wV kw_1164 kw_1165 kw_1166 kw_94 kw_1167) (by decide +kernel) ⟨Nat.le_of_ble_eq_true rfl, Nat.le_of_ble_eq_true rfl⟩ hK hP hD hN hT hS hA rfl heM rfl hl.1 rfl (lv_room (Nat.le_of_ble_eq_true rfl)) dL_law_217 ⟨Nat.le_of_ble_eq_true rfl, Nat.le_of_ble_eq_true rfl⟩ rfl rfl rfl (fun H locs hP hD hS => ?_)
      refine lv_icmp_eq (tgt := 599) hx hb dL_law_220 (by decide) (fun _ => ?_) (fun q => absurd rfl q)
      exact hJ wF1 wM1 H locs ls hlt hRel1 hP hD hS hl
    by_cases c_3 : z = 3
    · refine lv_tableIn (tgt := 225) hx hb dL_law_33 (by rw [c_3]; decide) (by rw [c_3]; decide) (by rw [c_3]; rfl) (by decide) ?_
      refine lv_aload_n hx hb dL_law_225 rfl (lv_at hl 1 rfl) ?_
      obtain ⟨r, wF1, wM1, hRel1, hMF, hMM⟩ := h_3 wF wM hRel
      refine lc_i (As := []) (rest := []) (n := 0) (ci := 9) ⟨hx, hb, hml, hown, hts⟩ (hMF _) (wV kw_421 kw_422 kw_423 kw_82 kw_424) (by decide +kernel) ⟨Nat.le_of_ble_eq_true rfl, Nat.le_of_ble_eq_true rfl⟩ hK hP hD hN hT hS hA rfl heF rfl hl.1 rfl (lv_room (Nat.le_of_ble_eq_true rfl)) dL_law_226 ⟨Nat.le_of_ble_eq_true rfl, Nat.le_of_ble_eq_true rfl⟩ rfl rfl rfl (fun H locs hP hD hS => ?_)
      refine lv_aload_n hx hb dL_law_229 rfl (lv_at hl 2 rfl) ?_
      refine lc_i (As := []) (rest := [.int r]) (n := 0) (ci := 10) ⟨hx, hb, hml, hown, hts⟩ (hMM _) (wV kw_1168 kw_1169 kw_1170 kw_94 kw_1171) (by decide +kernel) ⟨Nat.le_of_ble_eq_true rfl, Nat.le_of_ble_eq_true rfl⟩ hK hP hD hN hT hS hA rfl heM rfl hl.1 rfl (lv_room (Nat.le_of_ble_eq_true rfl)) dL_law_230 ⟨Nat.le_of_ble_eq_true rfl, Nat.le_of_ble_eq_true rfl⟩ rfl rfl rfl (fun H locs hP hD hS => ?_)
      refine lv_icmp_eq (tgt := 599) hx hb dL_law_233 (by decide) (fun _ => ?_) (fun q => absurd rfl q)
      exact hJ wF1 wM1 H locs ls hlt hRel1 hP hD hS hl
    by_cases c_4 : z = 4
    · refine lv_tableIn (tgt := 238) hx hb dL_law_33 (by rw [c_4]; decide) (by rw [c_4]; decide) (by rw [c_4]; rfl) (by decide) ?_
      refine lv_aload_n hx hb dL_law_238 rfl (lv_at hl 1 rfl) ?_
      obtain ⟨r, wF1, wM1, hRel1, hMF, hMM⟩ := h_4 wF wM hRel
      refine lc_i (As := []) (rest := []) (n := 0) (ci := 9) ⟨hx, hb, hml, hown, hts⟩ (hMF _) (wV kw_437 kw_438 kw_439 kw_82 kw_440) (by decide +kernel) ⟨Nat.le_of_ble_eq_true rfl, Nat.le_of_ble_eq_true rfl⟩ hK hP hD hN hT hS hA rfl heF rfl hl.1 rfl (lv_room (Nat.le_of_ble_eq_true rfl)) dL_law_239 ⟨Nat.le_of_ble_eq_true rfl, Nat.le_of_ble_eq_true rfl⟩ rfl rfl rfl (fun H locs hP hD hS => ?_)
      refine lv_aload_n hx hb dL_law_242 rfl (lv_at hl 2 rfl) ?_
      refine lc_i (As := []) (rest := [.int r]) (n := 0) (ci := 10) ⟨hx, hb, hml, hown, hts⟩ (hMM _) (wV kw_1175 kw_1176 kw_1177 kw_94 kw_1178) (by decide +kernel) ⟨Nat.le_of_ble_eq_true rfl, Nat.le_of_ble_eq_true rfl⟩ hK hP hD hN hT hS hA rfl heM rfl hl.1 rfl (lv_room (Nat.le_of_ble_eq_true rfl)) dL_law_243 ⟨Nat.le_of_ble_eq_true rfl, Nat.le_of_ble_eq_true rfl⟩ rfl rfl rfl (fun H locs hP hD hS => ?_)
      refine lv_icmp_eq (tgt := 599) hx hb dL_law_246 (by decide) (fun _ => ?_) (fun q => absurd rfl q)
      exact hJ wF1 wM1 H locs ls hlt hRel1 hP hD hS hl
    by_cases c_5 : z = 5
    · refine lv_tableIn (tgt := 251) hx hb dL_law_33 (by rw [c_5]; decide) (by rw [c_5]; decide) (by rw [c_5]; rfl) (by decide) ?_
      refine lv_aload_n hx hb dL_law_251 rfl (lv_at hl 1 rfl) ?_
      refine lv_aload_n hx hb dL_law_252 rfl (lv_at hl 0 rfl) ?_
      refine lv_iload_n hx hb dL_law_253 rfl (lv_at hl 3 rfl) ?_
      refine lv_iconst (v := 1) hx hb dL_law_254 (by decide) ?_
      refine lv_iadd hx hb dL_law_255 ?_
      refine va_sld hx hb hX hbl hbA hS g_1 dL_law_256 ?_
      refine lv_aload_n hx hb dL_law_257 rfl (lv_at hl 0 rfl) ?_
      refine lv_iload_n hx hb dL_law_258 rfl (lv_at hl 3 rfl) ?_
      refine lv_iconst (v := 2) hx hb dL_law_259 (by decide) ?_
      refine lv_iadd hx hb dL_law_260 ?_
      refine va_sld hx hb hX hbl hbA hS g_2 dL_law_261 ?_
      obtain ⟨r, wF1, wM1, hRel1, hMF, hMM⟩ := h_5 (xs (x3 + 1).toNatClampNeg) (xs (x3 + 2).toNatClampNeg) wF wM hRel
      refine lc_i (As := [.int (xs (x3 + 1).toNatClampNeg), .int (xs (x3 + 2).toNatClampNeg)]) (rest := []) (n := 2) (ci := 9) ⟨hx, hb, hml, hown, hts⟩ (hMF _) (wV kw_441 kw_442 kw_443 kw_82 kw_444) (by decide +kernel) ⟨Nat.le_of_ble_eq_true rfl, Nat.le_of_ble_eq_true rfl⟩ hK hP hD hN hT hS hA rfl heF rfl hl.1 rfl (lv_room (Nat.le_of_ble_eq_true rfl)) dL_law_262 ⟨Nat.le_of_ble_eq_true rfl, Nat.le_of_ble_eq_true rfl⟩ rfl rfl rfl (fun H locs hP hD hS => ?_)
      refine lv_aload_n hx hb dL_law_265 rfl (lv_at hl 2 rfl) ?_
      refine lv_aload_n hx hb dL_law_266 rfl (lv_at hl 0 rfl) ?_
      refine lv_iload_n hx hb dL_law_267 rfl (lv_at hl 3 rfl) ?_
      refine lv_iconst (v := 1) hx hb dL_law_268 (by decide) ?_
      refine lv_iadd hx hb dL_law_269 ?_
      refine va_sld hx hb hX hbl hbA hS g_1 dL_law_270 ?_
      refine lv_aload_n hx hb dL_law_271 rfl (lv_at hl 0 rfl) ?_
      refine lv_iload_n hx hb dL_law_272 rfl (lv_at hl 3 rfl) ?_
      refine lv_iconst (v := 2) hx hb dL_law_273 (by decide) ?_
      refine lv_iadd hx hb dL_law_274 ?_
      refine va_sld hx hb hX hbl hbA hS g_2 dL_law_275 ?_
      refine lc_i (As := [.int (xs (x3 + 1).toNatClampNeg), .int (xs (x3 + 2).toNatClampNeg)]) (rest := [.int r]) (n := 2) (ci := 10) ⟨hx, hb, hml, hown, hts⟩ (hMM _) (wV kw_1179 kw_1180 kw_1181 kw_94 kw_1182) (by decide +kernel) ⟨Nat.le_of_ble_eq_true rfl, Nat.le_of_ble_eq_true rfl⟩ hK hP hD hN hT hS hA rfl heM rfl hl.1 rfl (lv_room (Nat.le_of_ble_eq_true rfl)) dL_law_276 ⟨Nat.le_of_ble_eq_true rfl, Nat.le_of_ble_eq_true rfl⟩ rfl rfl rfl (fun H locs hP hD hS => ?_)
      refine lv_icmp_eq (tgt := 599) hx hb dL_law_279 (by decide) (fun _ => ?_) (fun q => absurd rfl q)
      exact hJ wF1 wM1 H locs ls hlt hRel1 hP hD hS hl
    by_cases c_6 : z = 6
    · refine lv_tableIn (tgt := 284) hx hb dL_law_33 (by rw [c_6]; decide) (by rw [c_6]; decide) (by rw [c_6]; rfl) (by decide) ?_
      refine lv_aload_n hx hb dL_law_284 rfl (lv_at hl 1 rfl) ?_
      refine lv_aload_n hx hb dL_law_285 rfl (lv_at hl 0 rfl) ?_
      refine lv_iload_n hx hb dL_law_286 rfl (lv_at hl 3 rfl) ?_
      refine lv_iconst (v := 1) hx hb dL_law_287 (by decide) ?_
      refine lv_iadd hx hb dL_law_288 ?_
      refine va_sld hx hb hX hbl hbA hS g_1 dL_law_289 ?_
      refine lv_aload_n hx hb dL_law_290 rfl (lv_at hl 0 rfl) ?_
      refine lv_iload_n hx hb dL_law_291 rfl (lv_at hl 3 rfl) ?_
      refine lv_iconst (v := 2) hx hb dL_law_292 (by decide) ?_
      refine lv_iadd hx hb dL_law_293 ?_
      refine va_sld hx hb hX hbl hbA hS g_2 dL_law_294 ?_
      obtain ⟨r, wF1, wM1, hRel1, hMF, hMM⟩ := h_6 (xs (x3 + 1).toNatClampNeg) (xs (x3 + 2).toNatClampNeg) wF wM hRel
      refine lc_i (As := [.int (xs (x3 + 1).toNatClampNeg), .int (xs (x3 + 2).toNatClampNeg)]) (rest := []) (n := 2) (ci := 9) ⟨hx, hb, hml, hown, hts⟩ (hMF _) (wV kw_445 kw_446 kw_447 kw_82 kw_448) (by decide +kernel) ⟨Nat.le_of_ble_eq_true rfl, Nat.le_of_ble_eq_true rfl⟩ hK hP hD hN hT hS hA rfl heF rfl hl.1 rfl (lv_room (Nat.le_of_ble_eq_true rfl)) dL_law_295 ⟨Nat.le_of_ble_eq_true rfl, Nat.le_of_ble_eq_true rfl⟩ rfl rfl rfl (fun H locs hP hD hS => ?_)
      refine lv_aload_n hx hb dL_law_298 rfl (lv_at hl 2 rfl) ?_
      refine lv_aload_n hx hb dL_law_299 rfl (lv_at hl 0 rfl) ?_
      refine lv_iload_n hx hb dL_law_300 rfl (lv_at hl 3 rfl) ?_
      refine lv_iconst (v := 1) hx hb dL_law_301 (by decide) ?_
      refine lv_iadd hx hb dL_law_302 ?_
      refine va_sld hx hb hX hbl hbA hS g_1 dL_law_303 ?_
      refine lv_aload_n hx hb dL_law_304 rfl (lv_at hl 0 rfl) ?_
      refine lv_iload_n hx hb dL_law_305 rfl (lv_at hl 3 rfl) ?_
      refine lv_iconst (v := 2) hx hb dL_law_306 (by decide) ?_
      refine lv_iadd hx hb dL_law_307 ?_
      refine va_sld hx hb hX hbl hbA hS g_2 dL_law_308 ?_
      refine lc_i (As := [.int (xs (x3 + 1).toNatClampNeg), .int (xs (x3 + 2).toNatClampNeg)]) (rest := [.int r]) (n := 2) (ci := 10) ⟨hx, hb, hml, hown, hts⟩ (hMM _) (wV kw_1186 kw_1187 kw_1188 kw_94 kw_1189) (by decide +kernel) ⟨Nat.le_of_ble_eq_true rfl, Nat.le_of_ble_eq_true rfl⟩ hK hP hD hN hT hS hA rfl heM rfl hl.1 rfl (lv_room (Nat.le_of_ble_eq_true rfl)) dL_law_309 ⟨Nat.le_of_ble_eq_true rfl, Nat.le_of_ble_eq_true rfl⟩ rfl rfl rfl (fun H locs hP hD hS => ?_)
      refine lv_icmp_eq (tgt := 599) hx hb dL_law_312 (by decide) (fun _ => ?_) (fun q => absurd rfl q)
      exact hJ wF1 wM1 H locs ls hlt hRel1 hP hD hS hl
    by_cases c_7 : z = 7
    · refine lv_tableIn (tgt := 317) hx hb dL_law_33 (by rw [c_7]; decide) (by rw [c_7]; decide) (by rw [c_7]; rfl) (by decide) ?_
      refine lv_aload_n hx hb dL_law_317 rfl (lv_at hl 1 rfl) ?_
      refine lv_aload_n hx hb dL_law_318 rfl (lv_at hl 0 rfl) ?_
      refine lv_iload_n hx hb dL_law_319 rfl (lv_at hl 3 rfl) ?_
      refine lv_iconst (v := 1) hx hb dL_law_320 (by decide) ?_
      refine lv_iadd hx hb dL_law_321 ?_
      refine va_sld hx hb hX hbl hbA hS g_1 dL_law_322 ?_
      refine lv_aload_n hx hb dL_law_323 rfl (lv_at hl 0 rfl) ?_
      refine lv_iload_n hx hb dL_law_324 rfl (lv_at hl 3 rfl) ?_
      refine lv_iconst (v := 2) hx hb dL_law_325 (by decide) ?_
      refine lv_iadd hx hb dL_law_326 ?_
      refine va_sld hx hb hX hbl hbA hS g_2 dL_law_327 ?_
      obtain ⟨r, wF1, wM1, hRel1, hMF, hMM⟩ := h_7 (xs (x3 + 1).toNatClampNeg) (xs (x3 + 2).toNatClampNeg) wF wM hRel
      refine lc_i (As := [.int (xs (x3 + 1).toNatClampNeg), .int (xs (x3 + 2).toNatClampNeg)]) (rest := []) (n := 2) (ci := 9) ⟨hx, hb, hml, hown, hts⟩ (hMF _) (wV kw_827 kw_828 kw_829 kw_82 kw_830) (by decide +kernel) ⟨Nat.le_of_ble_eq_true rfl, Nat.le_of_ble_eq_true rfl⟩ hK hP hD hN hT hS hA rfl heF rfl hl.1 rfl (lv_room (Nat.le_of_ble_eq_true rfl)) dL_law_328 ⟨Nat.le_of_ble_eq_true rfl, Nat.le_of_ble_eq_true rfl⟩ rfl rfl rfl (fun H locs hP hD hS => ?_)
      refine lv_aload_n hx hb dL_law_331 rfl (lv_at hl 2 rfl) ?_
      refine lv_aload_n hx hb dL_law_332 rfl (lv_at hl 0 rfl) ?_
      refine lv_iload_n hx hb dL_law_333 rfl (lv_at hl 3 rfl) ?_
      refine lv_iconst (v := 1) hx hb dL_law_334 (by decide) ?_
      refine lv_iadd hx hb dL_law_335 ?_
      refine va_sld hx hb hX hbl hbA hS g_1 dL_law_336 ?_
      refine lv_aload_n hx hb dL_law_337 rfl (lv_at hl 0 rfl) ?_
      refine lv_iload_n hx hb dL_law_338 rfl (lv_at hl 3 rfl) ?_
      refine lv_iconst (v := 2) hx hb dL_law_339 (by decide) ?_
      refine lv_iadd hx hb dL_law_340 ?_
      refine va_sld hx hb hX hbl hbA hS g_2 dL_law_341 ?_
      refine lc_i (As := [.int (xs (x3 + 1).toNatClampNeg), .int (xs (x3 + 2).toNatClampNeg)]) (rest := [.int r]) (n := 2) (ci := 10) ⟨hx, hb, hml, hown, hts⟩ (hMM _) (wV kw_1329 kw_1330 kw_1331 kw_94 kw_1332) (by decide +kernel) ⟨Nat.le_of_ble_eq_true rfl, Nat.le_of_ble_eq_true rfl⟩ hK hP hD hN hT hS hA rfl heM rfl hl.1 rfl (lv_room (Nat.le_of_ble_eq_true rfl)) dL_law_342 ⟨Nat.le_of_ble_eq_true rfl, Nat.le_of_ble_eq_true rfl⟩ rfl rfl rfl (fun H locs hP hD hS => ?_)
      refine lv_icmp_eq (tgt := 599) hx hb dL_law_345 (by decide) (fun _ => ?_) (fun q => absurd rfl q)
      exact hJ wF1 wM1 H locs ls hlt hRel1 hP hD hS hl
    by_cases c_8 : z = 8
    · refine lv_tableIn (tgt := 350) hx hb dL_law_33 (by rw [c_8]; decide) (by rw [c_8]; decide) (by rw [c_8]; rfl) (by decide) ?_
      refine lv_aload_n hx hb dL_law_350 rfl (lv_at hl 1 rfl) ?_
      refine lv_aload_n hx hb dL_law_351 rfl (lv_at hl 0 rfl) ?_
      refine lv_iload_n hx hb dL_law_352 rfl (lv_at hl 3 rfl) ?_
      refine lv_iconst (v := 1) hx hb dL_law_353 (by decide) ?_
      refine lv_iadd hx hb dL_law_354 ?_
      refine va_sld hx hb hX hbl hbA hS g_1 dL_law_355 ?_
      refine lv_aload_n hx hb dL_law_356 rfl (lv_at hl 0 rfl) ?_
      refine lv_iload_n hx hb dL_law_357 rfl (lv_at hl 3 rfl) ?_
      refine lv_iconst (v := 2) hx hb dL_law_358 (by decide) ?_
      refine lv_iadd hx hb dL_law_359 ?_
      refine va_sld hx hb hX hbl hbA hS g_2 dL_law_360 ?_
      obtain ⟨r, wF1, wM1, hRel1, hMF, hMM⟩ := h_8 (xs (x3 + 1).toNatClampNeg) (xs (x3 + 2).toNatClampNeg) wF wM hRel
      refine lc_i (As := [.int (xs (x3 + 1).toNatClampNeg), .int (xs (x3 + 2).toNatClampNeg)]) (rest := []) (n := 2) (ci := 9) ⟨hx, hb, hml, hown, hts⟩ (hMF _) (wV kw_832 kw_833 kw_834 kw_82 kw_835) (by decide +kernel) ⟨Nat.le_of_ble_eq_true rfl, Nat.le_of_ble_eq_true rfl⟩ hK hP hD hN hT hS hA rfl heF rfl hl.1 rfl (lv_room (Nat.le_of_ble_eq_true rfl)) dL_law_361 ⟨Nat.le_of_ble_eq_true rfl, Nat.le_of_ble_eq_true rfl⟩ rfl rfl rfl (fun H locs hP hD hS => ?_)
      refine lv_aload_n hx hb dL_law_364 rfl (lv_at hl 2 rfl) ?_
      refine lv_aload_n hx hb dL_law_365 rfl (lv_at hl 0 rfl) ?_
      refine lv_iload_n hx hb dL_law_366 rfl (lv_at hl 3 rfl) ?_
      refine lv_iconst (v := 1) hx hb dL_law_367 (by decide) ?_
      refine lv_iadd hx hb dL_law_368 ?_
      refine va_sld hx hb hX hbl hbA hS g_1 dL_law_369 ?_
      refine lv_aload_n hx hb dL_law_370 rfl (lv_at hl 0 rfl) ?_
      refine lv_iload_n hx hb dL_law_371 rfl (lv_at hl 3 rfl) ?_
      refine lv_iconst (v := 2) hx hb dL_law_372 (by decide) ?_
      refine lv_iadd hx hb dL_law_373 ?_
      refine va_sld hx hb hX hbl hbA hS g_2 dL_law_374 ?_
      refine lc_i (As := [.int (xs (x3 + 1).toNatClampNeg), .int (xs (x3 + 2).toNatClampNeg)]) (rest := [.int r]) (n := 2) (ci := 10) ⟨hx, hb, hml, hown, hts⟩ (hMM _) (wV kw_1337 kw_1338 kw_1339 kw_94 kw_1340) (by decide +kernel) ⟨Nat.le_of_ble_eq_true rfl, Nat.le_of_ble_eq_true rfl⟩ hK hP hD hN hT hS hA rfl heM rfl hl.1 rfl (lv_room (Nat.le_of_ble_eq_true rfl)) dL_law_375 ⟨Nat.le_of_ble_eq_true rfl, Nat.le_of_ble_eq_true rfl⟩ rfl rfl rfl (fun H locs hP hD hS => ?_)
      refine lv_icmp_eq (tgt := 599) hx hb dL_law_378 (by decide) (fun _ => ?_) (fun q => absurd rfl q)
      exact hJ wF1 wM1 H locs ls hlt hRel1 hP hD hS hl
    by_cases c_9 : z = 9
    · refine lv_tableIn (tgt := 383) hx hb dL_law_33 (by rw [c_9]; decide) (by rw [c_9]; decide) (by rw [c_9]; rfl) (by decide) ?_
      refine lv_aload_n hx hb dL_law_383 rfl (lv_at hl 1 rfl) ?_
      refine lv_aload_n hx hb dL_law_384 rfl (lv_at hl 0 rfl) ?_
      refine lv_iload_n hx hb dL_law_385 rfl (lv_at hl 3 rfl) ?_
      refine lv_iconst (v := 1) hx hb dL_law_386 (by decide) ?_
      refine lv_iadd hx hb dL_law_387 ?_
      refine va_sld hx hb hX hbl hbA hS g_1 dL_law_388 ?_
      obtain ⟨r, wF1, wM1, hRel1, hMF, hMM⟩ := h_9 (xs (x3 + 1).toNatClampNeg) wF wM hRel
      refine lc_i (As := [.int (xs (x3 + 1).toNatClampNeg)]) (rest := []) (n := 1) (ci := 9) ⟨hx, hb, hml, hown, hts⟩ (hMF _) (wV kw_839 kw_840 kw_841 kw_82 kw_842) (by decide +kernel) ⟨Nat.le_of_ble_eq_true rfl, Nat.le_of_ble_eq_true rfl⟩ hK hP hD hN hT hS hA rfl heF rfl hl.1 rfl (lv_room (Nat.le_of_ble_eq_true rfl)) dL_law_389 ⟨Nat.le_of_ble_eq_true rfl, Nat.le_of_ble_eq_true rfl⟩ rfl rfl rfl (fun H locs hP hD hS => ?_)
      refine lv_aload_n hx hb dL_law_392 rfl (lv_at hl 2 rfl) ?_
      refine lv_aload_n hx hb dL_law_393 rfl (lv_at hl 0 rfl) ?_
      refine lv_iload_n hx hb dL_law_394 rfl (lv_at hl 3 rfl) ?_
      refine lv_iconst (v := 1) hx hb dL_law_395 (by decide) ?_
      refine lv_iadd hx hb dL_law_396 ?_
      refine va_sld hx hb hX hbl hbA hS g_1 dL_law_397 ?_
      refine lc_i (As := [.int (xs (x3 + 1).toNatClampNeg)]) (rest := [.int r]) (n := 1) (ci := 10) ⟨hx, hb, hml, hown, hts⟩ (hMM _) (wV kw_1345 kw_1346 kw_1347 kw_94 kw_1348) (by decide +kernel) ⟨Nat.le_of_ble_eq_true rfl, Nat.le_of_ble_eq_true rfl⟩ hK hP hD hN hT hS hA rfl heM rfl hl.1 rfl (lv_room (Nat.le_of_ble_eq_true rfl)) dL_law_398 ⟨Nat.le_of_ble_eq_true rfl, Nat.le_of_ble_eq_true rfl⟩ rfl rfl rfl (fun H locs hP hD hS => ?_)
      refine lv_icmp_eq (tgt := 599) hx hb dL_law_401 (by decide) (fun _ => ?_) (fun q => absurd rfl q)
      exact hJ wF1 wM1 H locs ls hlt hRel1 hP hD hS hl
    by_cases c_10 : z = 10
    · refine lv_tableIn (tgt := 406) hx hb dL_law_33 (by rw [c_10]; decide) (by rw [c_10]; decide) (by rw [c_10]; rfl) (by decide) ?_
      refine lv_aload_n hx hb dL_law_406 rfl (lv_at hl 1 rfl) ?_
      refine lv_aload_n hx hb dL_law_407 rfl (lv_at hl 0 rfl) ?_
      refine lv_iload_n hx hb dL_law_408 rfl (lv_at hl 3 rfl) ?_
      refine lv_iconst (v := 1) hx hb dL_law_409 (by decide) ?_
      refine lv_iadd hx hb dL_law_410 ?_
      refine va_sld hx hb hX hbl hbA hS g_1 dL_law_411 ?_
      obtain ⟨r, wF1, wM1, hRel1, hMF, hMM⟩ := h_10 (xs (x3 + 1).toNatClampNeg) wF wM hRel
      refine lc_i (As := [.int (xs (x3 + 1).toNatClampNeg)]) (rest := []) (n := 1) (ci := 9) ⟨hx, hb, hml, hown, hts⟩ (hMF _) (wV kw_995 kw_996 kw_997 kw_82 kw_998) (by decide +kernel) ⟨Nat.le_of_ble_eq_true rfl, Nat.le_of_ble_eq_true rfl⟩ hK hP hD hN hT hS hA rfl heF rfl hl.1 rfl (lv_room (Nat.le_of_ble_eq_true rfl)) dL_law_412 ⟨Nat.le_of_ble_eq_true rfl, Nat.le_of_ble_eq_true rfl⟩ rfl rfl rfl (fun H locs hP hD hS => ?_)
      refine lv_aload_n hx hb dL_law_415 rfl (lv_at hl 2 rfl) ?_
      refine lv_aload_n hx hb dL_law_416 rfl (lv_at hl 0 rfl) ?_
      refine lv_iload_n hx hb dL_law_417 rfl (lv_at hl 3 rfl) ?_
      refine lv_iconst (v := 1) hx hb dL_law_418 (by decide) ?_
      refine lv_iadd hx hb dL_law_419 ?_
      refine va_sld hx hb hX hbl hbA hS g_1 dL_law_420 ?_
      refine lc_i (As := [.int (xs (x3 + 1).toNatClampNeg)]) (rest := [.int r]) (n := 1) (ci := 10) ⟨hx, hb, hml, hown, hts⟩ (hMM _) (wV kw_1392 kw_1393 kw_1394 kw_94 kw_1395) (by decide +kernel) ⟨Nat.le_of_ble_eq_true rfl, Nat.le_of_ble_eq_true rfl⟩ hK hP hD hN hT hS hA rfl heM rfl hl.1 rfl (lv_room (Nat.le_of_ble_eq_true rfl)) dL_law_421 ⟨Nat.le_of_ble_eq_true rfl, Nat.le_of_ble_eq_true rfl⟩ rfl rfl rfl (fun H locs hP hD hS => ?_)
      refine lv_icmp_eq (tgt := 599) hx hb dL_law_424 (by decide) (fun _ => ?_) (fun q => absurd rfl q)
      exact hJ wF1 wM1 H locs ls hlt hRel1 hP hD hS hl
    by_cases c_11 : z = 11
    · refine lv_tableIn (tgt := 429) hx hb dL_law_33 (by rw [c_11]; decide) (by rw [c_11]; decide) (by rw [c_11]; rfl) (by decide) ?_
      refine lv_aload_n hx hb dL_law_429 rfl (lv_at hl 1 rfl) ?_
      refine lv_aload_n hx hb dL_law_430 rfl (lv_at hl 0 rfl) ?_
      refine lv_iload_n hx hb dL_law_431 rfl (lv_at hl 3 rfl) ?_
      refine lv_iconst (v := 1) hx hb dL_law_432 (by decide) ?_
      refine lv_iadd hx hb dL_law_433 ?_
      refine va_sld hx hb hX hbl hbA hS g_1 dL_law_434 ?_
      refine lv_aload_n hx hb dL_law_435 rfl (lv_at hl 0 rfl) ?_
      refine lv_iload_n hx hb dL_law_436 rfl (lv_at hl 3 rfl) ?_
      refine lv_iconst (v := 2) hx hb dL_law_437 (by decide) ?_
      refine lv_iadd hx hb dL_law_438 ?_
      refine va_sld hx hb hX hbl hbA hS g_2 dL_law_439 ?_
      obtain ⟨r, wF1, wM1, hRel1, hMF, hMM⟩ := h_11 (xs (x3 + 1).toNatClampNeg) (xs (x3 + 2).toNatClampNeg) wF wM hRel
      refine lc_i (As := [.int (xs (x3 + 1).toNatClampNeg), .int (xs (x3 + 2).toNatClampNeg)]) (rest := []) (n := 2) (ci := 9) ⟨hx, hb, hml, hown, hts⟩ (hMF _) (wV kw_1003 kw_1004 kw_1005 kw_82 kw_1006) (by decide +kernel) ⟨Nat.le_of_ble_eq_true rfl, Nat.le_of_ble_eq_true rfl⟩ hK hP hD hN hT hS hA rfl heF rfl hl.1 rfl (lv_room (Nat.le_of_ble_eq_true rfl)) dL_law_440 ⟨Nat.le_of_ble_eq_true rfl, Nat.le_of_ble_eq_true rfl⟩ rfl rfl rfl (fun H locs hP hD hS => ?_)
      refine lv_aload_n hx hb dL_law_443 rfl (lv_at hl 2 rfl) ?_
      refine lv_aload_n hx hb dL_law_444 rfl (lv_at hl 0 rfl) ?_
      refine lv_iload_n hx hb dL_law_445 rfl (lv_at hl 3 rfl) ?_
      refine lv_iconst (v := 1) hx hb dL_law_446 (by decide) ?_
      refine lv_iadd hx hb dL_law_447 ?_
      refine va_sld hx hb hX hbl hbA hS g_1 dL_law_448 ?_
      refine lv_aload_n hx hb dL_law_449 rfl (lv_at hl 0 rfl) ?_
      refine lv_iload_n hx hb dL_law_450 rfl (lv_at hl 3 rfl) ?_
      refine lv_iconst (v := 2) hx hb dL_law_451 (by decide) ?_
      refine lv_iadd hx hb dL_law_452 ?_
      refine va_sld hx hb hX hbl hbA hS g_2 dL_law_453 ?_
      refine lc_i (As := [.int (xs (x3 + 1).toNatClampNeg), .int (xs (x3 + 2).toNatClampNeg)]) (rest := [.int r]) (n := 2) (ci := 10) ⟨hx, hb, hml, hown, hts⟩ (hMM _) (wV kw_1396 kw_1397 kw_1398 kw_94 kw_1399) (by decide +kernel) ⟨Nat.le_of_ble_eq_true rfl, Nat.le_of_ble_eq_true rfl⟩ hK hP hD hN hT hS hA rfl heM rfl hl.1 rfl (lv_room (Nat.le_of_ble_eq_true rfl)) dL_law_454 ⟨Nat.le_of_ble_eq_true rfl, Nat.le_of_ble_eq_true rfl⟩ rfl rfl rfl (fun H locs hP hD hS => ?_)
      refine lv_icmp_eq (tgt := 599) hx hb dL_law_457 (by decide) (fun _ => ?_) (fun q => absurd rfl q)
      exact hJ wF1 wM1 H locs ls hlt hRel1 hP hD hS hl
    by_cases c_12 : z = 12
    · refine lv_tableIn (tgt := 462) hx hb dL_law_33 (by rw [c_12]; decide) (by rw [c_12]; decide) (by rw [c_12]; rfl) (by decide) ?_
      refine lv_aload_n hx hb dL_law_462 rfl (lv_at hl 1 rfl) ?_
      refine lv_aload_n hx hb dL_law_463 rfl (lv_at hl 0 rfl) ?_
      refine lv_iload_n hx hb dL_law_464 rfl (lv_at hl 3 rfl) ?_
      refine lv_iconst (v := 1) hx hb dL_law_465 (by decide) ?_
      refine lv_iadd hx hb dL_law_466 ?_
      refine va_sld hx hb hX hbl hbA hS g_1 dL_law_467 ?_
      obtain ⟨r, wF1, wM1, hRel1, hMF, hMM⟩ := h_12 (xs (x3 + 1).toNatClampNeg) wF wM hRel
      refine lc_i (As := [.int (xs (x3 + 1).toNatClampNeg)]) (rest := []) (n := 1) (ci := 9) ⟨hx, hb, hml, hown, hts⟩ (hMF _) (wV kw_1015 kw_1016 kw_1017 kw_82 kw_1018) (by decide +kernel) ⟨Nat.le_of_ble_eq_true rfl, Nat.le_of_ble_eq_true rfl⟩ hK hP hD hN hT hS hA rfl heF rfl hl.1 rfl (lv_room (Nat.le_of_ble_eq_true rfl)) dL_law_468 ⟨Nat.le_of_ble_eq_true rfl, Nat.le_of_ble_eq_true rfl⟩ rfl rfl rfl (fun H locs hP hD hS => ?_)
      refine lv_aload_n hx hb dL_law_471 rfl (lv_at hl 2 rfl) ?_
      refine lv_aload_n hx hb dL_law_472 rfl (lv_at hl 0 rfl) ?_
      refine lv_iload_n hx hb dL_law_473 rfl (lv_at hl 3 rfl) ?_
      refine lv_iconst (v := 1) hx hb dL_law_474 (by decide) ?_
      refine lv_iadd hx hb dL_law_475 ?_
      refine va_sld hx hb hX hbl hbA hS g_1 dL_law_476 ?_
      refine lc_i (As := [.int (xs (x3 + 1).toNatClampNeg)]) (rest := [.int r]) (n := 1) (ci := 10) ⟨hx, hb, hml, hown, hts⟩ (hMM _) (wV kw_1400 kw_1401 kw_1402 kw_94 kw_1403) (by decide +kernel) ⟨Nat.le_of_ble_eq_true rfl, Nat.le_of_ble_eq_true rfl⟩ hK hP hD hN hT hS hA rfl heM rfl hl.1 rfl (lv_room (Nat.le_of_ble_eq_true rfl)) dL_law_477 ⟨Nat.le_of_ble_eq_true rfl, Nat.le_of_ble_eq_true rfl⟩ rfl rfl rfl (fun H locs hP hD hS => ?_)
      refine lv_icmp_eq (tgt := 599) hx hb dL_law_480 (by decide) (fun _ => ?_) (fun q => absurd rfl q)
      exact hJ wF1 wM1 H locs ls hlt hRel1 hP hD hS hl
    by_cases c_13 : z = 13
    · refine lv_tableIn (tgt := 485) hx hb dL_law_33 (by rw [c_13]; decide) (by rw [c_13]; decide) (by rw [c_13]; rfl) (by decide) ?_
      refine lv_aload_n hx hb dL_law_485 rfl (lv_at hl 1 rfl) ?_
      refine lv_aload_n hx hb dL_law_486 rfl (lv_at hl 0 rfl) ?_
      refine lv_iload_n hx hb dL_law_487 rfl (lv_at hl 3 rfl) ?_
      refine lv_iconst (v := 1) hx hb dL_law_488 (by decide) ?_
      refine lv_iadd hx hb dL_law_489 ?_
      refine va_sld hx hb hX hbl hbA hS g_1 dL_law_490 ?_
      refine lv_aload_n hx hb dL_law_491 rfl (lv_at hl 0 rfl) ?_
      refine lv_iload_n hx hb dL_law_492 rfl (lv_at hl 3 rfl) ?_
      refine lv_iconst (v := 2) hx hb dL_law_493 (by decide) ?_
      refine lv_iadd hx hb dL_law_494 ?_
      refine va_sld hx hb hX hbl hbA hS g_2 dL_law_495 ?_
      obtain ⟨r, wF1, wM1, hRel1, hMF, hMM⟩ := h_13 (xs (x3 + 1).toNatClampNeg) (xs (x3 + 2).toNatClampNeg) wF wM hRel
      refine lc_i (As := [.int (xs (x3 + 1).toNatClampNeg), .int (xs (x3 + 2).toNatClampNeg)]) (rest := []) (n := 2) (ci := 9) ⟨hx, hb, hml, hown, hts⟩ (hMF _) (wV kw_1021 kw_1022 kw_1023 kw_82 kw_1024) (by decide +kernel) ⟨Nat.le_of_ble_eq_true rfl, Nat.le_of_ble_eq_true rfl⟩ hK hP hD hN hT hS hA rfl heF rfl hl.1 rfl (lv_room (Nat.le_of_ble_eq_true rfl)) dL_law_496 ⟨Nat.le_of_ble_eq_true rfl, Nat.le_of_ble_eq_true rfl⟩ rfl rfl rfl (fun H locs hP hD hS => ?_)
      refine lv_aload_n hx hb dL_law_499 rfl (lv_at hl 2 rfl) ?_
      refine lv_aload_n hx hb dL_law_500 rfl (lv_at hl 0 rfl) ?_
      refine lv_iload_n hx hb dL_law_501 rfl (lv_at hl 3 rfl) ?_
      refine lv_iconst (v := 1) hx hb dL_law_502 (by decide) ?_
      refine lv_iadd hx hb dL_law_503 ?_
      refine va_sld hx hb hX hbl hbA hS g_1 dL_law_504 ?_
      refine lv_aload_n hx hb dL_law_505 rfl (lv_at hl 0 rfl) ?_
      refine lv_iload_n hx hb dL_law_506 rfl (lv_at hl 3 rfl) ?_
      refine lv_iconst (v := 2) hx hb dL_law_507 (by decide) ?_
      refine lv_iadd hx hb dL_law_508 ?_
      refine va_sld hx hb hX hbl hbA hS g_2 dL_law_509 ?_
      refine lc_i (As := [.int (xs (x3 + 1).toNatClampNeg), .int (xs (x3 + 2).toNatClampNeg)]) (rest := [.int r]) (n := 2) (ci := 10) ⟨hx, hb, hml, hown, hts⟩ (hMM _) (wV kw_1408 kw_1409 kw_1410 kw_94 kw_1411) (by decide +kernel) ⟨Nat.le_of_ble_eq_true rfl, Nat.le_of_ble_eq_true rfl⟩ hK hP hD hN hT hS hA rfl heM rfl hl.1 rfl (lv_room (Nat.le_of_ble_eq_true rfl)) dL_law_510 ⟨Nat.le_of_ble_eq_true rfl, Nat.le_of_ble_eq_true rfl⟩ rfl rfl rfl (fun H locs hP hD hS => ?_)
      refine lv_icmp_eq (tgt := 599) hx hb dL_law_513 (by decide) (fun _ => ?_) (fun q => absurd rfl q)
      exact hJ wF1 wM1 H locs ls hlt hRel1 hP hD hS hl
    by_cases c_14 : z = 14
    · refine lv_tableIn (tgt := 518) hx hb dL_law_33 (by rw [c_14]; decide) (by rw [c_14]; decide) (by rw [c_14]; rfl) (by decide) ?_
      refine lv_aload_n hx hb dL_law_518 rfl (lv_at hl 1 rfl) ?_
      refine lv_aload_n hx hb dL_law_519 rfl (lv_at hl 0 rfl) ?_
      refine lv_iload_n hx hb dL_law_520 rfl (lv_at hl 3 rfl) ?_
      refine lv_iconst (v := 1) hx hb dL_law_521 (by decide) ?_
      refine lv_iadd hx hb dL_law_522 ?_
      refine va_sld hx hb hX hbl hbA hS g_1 dL_law_523 ?_
      obtain ⟨r, wF1, wM1, hRel1, hMF, hMM⟩ := h_14 (xs (x3 + 1).toNatClampNeg) wF wM hRel
      refine lc_l (As := [.int (xs (x3 + 1).toNatClampNeg)]) (rest := []) (n := 1) (ci := 9) ⟨hx, hb, hml, hown, hts⟩ (hMF _) (wV kw_1026 kw_1027 kw_1028 kw_82 kw_1029) (by decide +kernel) ⟨Nat.le_of_ble_eq_true rfl, Nat.le_of_ble_eq_true rfl⟩ hK hP hD hN hT hS hA rfl heF rfl hl.1 rfl (lv_room (Nat.le_of_ble_eq_true rfl)) dL_law_524 ⟨Nat.le_of_ble_eq_true rfl, Nat.le_of_ble_eq_true rfl⟩ rfl rfl rfl (fun H locs hP hD hS => ?_)
      refine lv_aload_n hx hb dL_law_527 rfl (lv_at hl 2 rfl) ?_
      refine lv_aload_n hx hb dL_law_528 rfl (lv_at hl 0 rfl) ?_
      refine lv_iload_n hx hb dL_law_529 rfl (lv_at hl 3 rfl) ?_
      refine lv_iconst (v := 1) hx hb dL_law_530 (by decide) ?_
      refine lv_iadd hx hb dL_law_531 ?_
      refine va_sld hx hb hX hbl hbA hS g_1 dL_law_532 ?_
      refine lc_l (As := [.int (xs (x3 + 1).toNatClampNeg)]) (rest := [.long r]) (n := 1) (ci := 10) ⟨hx, hb, hml, hown, hts⟩ (hMM _) (wV kw_1412 kw_1413 kw_1414 kw_94 kw_1415) (by decide +kernel) ⟨Nat.le_of_ble_eq_true rfl, Nat.le_of_ble_eq_true rfl⟩ hK hP hD hN hT hS hA rfl heM rfl hl.1 rfl (lv_room (Nat.le_of_ble_eq_true rfl)) dL_law_533 ⟨Nat.le_of_ble_eq_true rfl, Nat.le_of_ble_eq_true rfl⟩ rfl rfl rfl (fun H locs hP hD hS => ?_)
      refine W.lcmp hx hb dL_law_536 ?_
      refine lv_if_eq (tgt := 599) hx hb dL_law_537 (by decide) (fun _ => ?_) (fun q => absurd (lg_same r) q)
      exact hJ wF1 wM1 H locs ls hlt hRel1 hP hD hS hl
    by_cases c_15 : z = 15
    · refine lv_tableIn (tgt := 542) hx hb dL_law_33 (by rw [c_15]; decide) (by rw [c_15]; decide) (by rw [c_15]; rfl) (by decide) ?_
      refine lv_aload_n hx hb dL_law_542 rfl (lv_at hl 1 rfl) ?_
      refine lv_aload_n hx hb dL_law_543 rfl (lv_at hl 0 rfl) ?_
      refine lv_iload_n hx hb dL_law_544 rfl (lv_at hl 3 rfl) ?_
      refine lv_iconst (v := 1) hx hb dL_law_545 (by decide) ?_
      refine lv_iadd hx hb dL_law_546 ?_
      refine va_sld hx hb hX hbl hbA hS g_1 dL_law_547 ?_
      refine lv_aload_n hx hb dL_law_548 rfl (lv_at hl 0 rfl) ?_
      refine lv_iload_n hx hb dL_law_549 rfl (lv_at hl 3 rfl) ?_
      refine lv_iconst (v := 2) hx hb dL_law_550 (by decide) ?_
      refine lv_iadd hx hb dL_law_551 ?_
      refine va_sld hx hb hX hbl hbA hS g_2 dL_law_552 ?_
      obtain ⟨r, wF1, wM1, hRel1, hMF, hMM⟩ := h_15 (xs (x3 + 1).toNatClampNeg) (xs (x3 + 2).toNatClampNeg) wF wM hRel
      refine lc_l (As := [.int (xs (x3 + 1).toNatClampNeg), .int (xs (x3 + 2).toNatClampNeg)]) (rest := []) (n := 2) (ci := 9) ⟨hx, hb, hml, hown, hts⟩ (hMF _) (wV kw_1035 kw_1036 kw_1037 kw_82 kw_1038) (by decide +kernel) ⟨Nat.le_of_ble_eq_true rfl, Nat.le_of_ble_eq_true rfl⟩ hK hP hD hN hT hS hA rfl heF rfl hl.1 rfl (lv_room (Nat.le_of_ble_eq_true rfl)) dL_law_553 ⟨Nat.le_of_ble_eq_true rfl, Nat.le_of_ble_eq_true rfl⟩ rfl rfl rfl (fun H locs hP hD hS => ?_)
      refine lv_aload_n hx hb dL_law_556 rfl (lv_at hl 2 rfl) ?_
      refine lv_aload_n hx hb dL_law_557 rfl (lv_at hl 0 rfl) ?_
      refine lv_iload_n hx hb dL_law_558 rfl (lv_at hl 3 rfl) ?_
      refine lv_iconst (v := 1) hx hb dL_law_559 (by decide) ?_
      refine lv_iadd hx hb dL_law_560 ?_
      refine va_sld hx hb hX hbl hbA hS g_1 dL_law_561 ?_
      refine lv_aload_n hx hb dL_law_562 rfl (lv_at hl 0 rfl) ?_
      refine lv_iload_n hx hb dL_law_563 rfl (lv_at hl 3 rfl) ?_
      refine lv_iconst (v := 2) hx hb dL_law_564 (by decide) ?_
      refine lv_iadd hx hb dL_law_565 ?_
      refine va_sld hx hb hX hbl hbA hS g_2 dL_law_566 ?_
      refine lc_l (As := [.int (xs (x3 + 1).toNatClampNeg), .int (xs (x3 + 2).toNatClampNeg)]) (rest := [.long r]) (n := 2) (ci := 10) ⟨hx, hb, hml, hown, hts⟩ (hMM _) (wV kw_1417 kw_1418 kw_1419 kw_94 kw_1420) (by decide +kernel) ⟨Nat.le_of_ble_eq_true rfl, Nat.le_of_ble_eq_true rfl⟩ hK hP hD hN hT hS hA rfl heM rfl hl.1 rfl (lv_room (Nat.le_of_ble_eq_true rfl)) dL_law_567 ⟨Nat.le_of_ble_eq_true rfl, Nat.le_of_ble_eq_true rfl⟩ rfl rfl rfl (fun H locs hP hD hS => ?_)
      refine W.lcmp hx hb dL_law_570 ?_
      refine lv_if_eq (tgt := 599) hx hb dL_law_571 (by decide) (fun _ => ?_) (fun q => absurd (lg_same r) q)
      exact hJ wF1 wM1 H locs ls hlt hRel1 hP hD hS hl
    by_cases c_16 : z = 16
    · refine lv_tableIn (tgt := 576) hx hb dL_law_33 (by rw [c_16]; decide) (by rw [c_16]; decide) (by rw [c_16]; rfl) (by decide) ?_
      refine lv_aload_n hx hb dL_law_576 rfl (lv_at hl 1 rfl) ?_
      refine lv_aload_n hx hb dL_law_577 rfl (lv_at hl 0 rfl) ?_
      refine lv_iload_n hx hb dL_law_578 rfl (lv_at hl 3 rfl) ?_
      refine lv_iconst (v := 1) hx hb dL_law_579 (by decide) ?_
      refine lv_iadd hx hb dL_law_580 ?_
      refine va_sld hx hb hX hbl hbA hS g_1 dL_law_581 ?_
      obtain ⟨r, wF1, wM1, hRel1, hMF, hMM⟩ := h_16 (xs (x3 + 1).toNatClampNeg) wF wM hRel
      refine lc_i (As := [.int (xs (x3 + 1).toNatClampNeg)]) (rest := []) (n := 1) (ci := 9) ⟨hx, hb, hml, hown, hts⟩ (hMF _) (wV kw_1041 kw_1042 kw_1043 kw_82 kw_1044) (by decide +kernel) ⟨Nat.le_of_ble_eq_true rfl, Nat.le_of_ble_eq_true rfl⟩ hK hP hD hN hT hS hA rfl heF rfl hl.1 rfl (lv_room (Nat.le_of_ble_eq_true rfl)) dL_law_582 ⟨Nat.le_of_ble_eq_true rfl, Nat.le_of_ble_eq_true rfl⟩ rfl rfl rfl (fun H locs hP hD hS => ?_)
      refine lv_aload_n hx hb dL_law_585 rfl (lv_at hl 2 rfl) ?_
      refine lv_aload_n hx hb dL_law_586 rfl (lv_at hl 0 rfl) ?_
      refine lv_iload_n hx hb dL_law_587 rfl (lv_at hl 3 rfl) ?_
      refine lv_iconst (v := 1) hx hb dL_law_588 (by decide) ?_
      refine lv_iadd hx hb dL_law_589 ?_
      refine va_sld hx hb hX hbl hbA hS g_1 dL_law_590 ?_
      refine lc_i (As := [.int (xs (x3 + 1).toNatClampNeg)]) (rest := [.int r]) (n := 1) (ci := 10) ⟨hx, hb, hml, hown, hts⟩ (hMM _) (wV kw_1422 kw_1423 kw_1424 kw_94 kw_1425) (by decide +kernel) ⟨Nat.le_of_ble_eq_true rfl, Nat.le_of_ble_eq_true rfl⟩ hK hP hD hN hT hS hA rfl heM rfl hl.1 rfl (lv_room (Nat.le_of_ble_eq_true rfl)) dL_law_591 ⟨Nat.le_of_ble_eq_true rfl, Nat.le_of_ble_eq_true rfl⟩ rfl rfl rfl (fun H locs hP hD hS => ?_)
      refine lv_icmp_eq (tgt := 599) hx hb dL_law_594 (by decide) (fun _ => ?_) (fun q => absurd rfl q)
      exact hJ wF1 wM1 H locs ls hlt hRel1 hP hD hS hl
    refine lv_tableOut (tgt := 599) hx hb dL_law_33 (by have q0 := lv_neT c_0 (a := 0) (by decide); have q1 := lv_neT c_1 (a := 1) (by decide); have q2 := lv_neT c_2 (a := 2) (by decide); have q3 := lv_neT c_3 (a := 3) (by decide); have q4 := lv_neT c_4 (a := 4) (by decide); have q5 := lv_neT c_5 (a := 5) (by decide); have q6 := lv_neT c_6 (a := 6) (by decide); have q7 := lv_neT c_7 (a := 7) (by decide); have q8 := lv_neT c_8 (a := 8) (by decide); have q9 := lv_neT c_9 (a := 9) (by decide); have q10 := lv_neT c_10 (a := 10) (by decide); have q11 := lv_neT c_11 (a := 11) (by decide); have q12 := lv_neT c_12 (a := 12) (by decide); have q13 := lv_neT c_13 (a := 13) (by decide); have q14 := lv_neT c_14 (a := 14) (by decide); have q15 := lv_neT c_15 (a := 15) (by decide); have q16 := lv_neT c_16 (a := 16) (by decide); omega) (by decide) ?_
    exact hJ wF wM H locs ls hlt hRel hP hD hS hl
