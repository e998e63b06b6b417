theorem q426 : Cond.methodLink RL 71 yX9_block ∈ RQ := RQ_in 426 (by decide +kernel) (by decide +kernel)
theorem q427 : Cond.instanceMethod yX9_block ∈ RQ := RQ_in 427 (by decide +kernel) (by decide +kernel)
theorem q428 : Cond.selects RX9 yX9_block yX9_block ∈ RQ := RQ_in 428 (by decide +kernel) (by decide +kernel)
theorem q429 : Cond.code yX9_block cX9_block 4 (some .int) ∈ RQ := RQ_in 429 (by decide +kernel) (by decide +kernel)
theorem vk_L_71 : VK RL 71 8 yX9_block cX9_block 4 (some .int) 3 := ⟨RX9, TX9, 10, rfl, rfl, q426, q427, q428, q88, q429, ⟨by decide +kernel, by decide +kernel⟩, by decide +kernel, by decide⟩
theorem q1265 : Cond.methodLink RL 75 yX10_block ∈ RQ := RQ_in 1265 (by decide +kernel) (by decide +kernel)
theorem q1266 : Cond.instanceMethod yX10_block ∈ RQ := RQ_in 1266 (by decide +kernel) (by decide +kernel)
theorem q1267 : Cond.selects RX10 yX10_block yX10_block ∈ RQ := RQ_in 1267 (by decide +kernel) (by decide +kernel)
theorem q1268 : Cond.code yX10_block cX10_block 4 (some .int) ∈ RQ := RQ_in 1268 (by decide +kernel) (by decide +kernel)
theorem vk_L_75 : VK RL 75 9 yX10_block cX10_block 4 (some .int) 3 := ⟨RX10, TX10, 50, rfl, rfl, q1265, q1266, q1267, q98, q1268, ⟨by decide +kernel, by decide +kernel⟩, by decide +kernel, by decide⟩
theorem q445 : Cond.methodLink RL 76 yX9_less ∈ RQ := RQ_in 445 (by decide +kernel) (by decide +kernel)
theorem q446 : Cond.instanceMethod yX9_less ∈ RQ := RQ_in 446 (by decide +kernel) (by decide +kernel)
theorem q447 : Cond.selects RX9 yX9_less yX9_less ∈ RQ := RQ_in 447 (by decide +kernel) (by decide +kernel)
theorem q448 : Cond.code yX9_less cX9_less 2 (some .int) ∈ RQ := RQ_in 448 (by decide +kernel) (by decide +kernel)
theorem vk_L_76 : VK RL 76 8 yX9_less cX9_less 2 (some .int) 0 := ⟨RX9, TX9, 10, rfl, rfl, q445, q446, q447, q88, q448, ⟨by decide +kernel, by decide +kernel⟩, by decide +kernel, by decide⟩
theorem q1269 : Cond.methodLink RL 79 yX10_less ∈ RQ := RQ_in 1269 (by decide +kernel) (by decide +kernel)
theorem q1270 : Cond.instanceMethod yX10_less ∈ RQ := RQ_in 1270 (by decide +kernel) (by decide +kernel)
theorem q1271 : Cond.selects RX10 yX10_less yX10_less ∈ RQ := RQ_in 1271 (by decide +kernel) (by decide +kernel)
theorem q1272 : Cond.code yX10_less cX10_less 2 (some .int) ∈ RQ := RQ_in 1272 (by decide +kernel) (by decide +kernel)
theorem vk_L_79 : VK RL 79 9 yX10_less cX10_less 2 (some .int) 0 := ⟨RX10, TX10, 50, rfl, rfl, q1269, q1270, q1271, q98, q1272, ⟨by decide +kernel, by decide +kernel⟩, by decide +kernel, by decide⟩
theorem q647 : Cond.codeWith yL_side cL_side 5 (some .int) [((0), (10), (13), (13))] ∈ RQ := RQ_in 647 (by decide +kernel) (by decide +kernel)
theorem q645 : Cond.methodLink RL 80 yL_side ∈ RQ := RQ_in 645 (by decide +kernel) (by decide +kernel)
theorem q646 : Cond.static yL_side ∈ RQ := RQ_in 646 (by decide +kernel) (by decide +kernel)
theorem q87 : Cond.initialized RL ∈ RQ := RQ_in 87 (by decide +kernel) (by decide +kernel)
theorem wk_L_80 : WK RL 80 yL_side cL_side 5 (some .int) [((0), (10), (13), (13))] 4 := ⟨q645, q646, q87, q647, ⟨by decide +kernel, by decide +kernel⟩, by decide +kernel, by decide⟩
theorem q1273 : Cond.methodLink RL 85 yX10_side ∈ RQ := RQ_in 1273 (by decide +kernel) (by decide +kernel)
theorem q1274 : Cond.instanceMethod yX10_side ∈ RQ := RQ_in 1274 (by decide +kernel) (by decide +kernel)
theorem q1275 : Cond.selects RX10 yX10_side yX10_side ∈ RQ := RQ_in 1275 (by decide +kernel) (by decide +kernel)
theorem q1276 : Cond.code yX10_side cX10_side 3 (some .int) ∈ RQ := RQ_in 1276 (by decide +kernel) (by decide +kernel)
theorem vk_L_85 : VK RL 85 9 yX10_side cX10_side 3 (some .int) 2 := ⟨RX10, TX10, 50, rfl, rfl, q1273, q1274, q1275, q98, q1276, ⟨by decide +kernel, by decide +kernel⟩, by decide +kernel, by decide⟩
theorem q1261 : Cond.methodLink RL 86 yX10_thrown ∈ RQ := RQ_in 1261 (by decide +kernel) (by decide +kernel)
theorem q1262 : Cond.instanceMethod yX10_thrown ∈ RQ := RQ_in 1262 (by decide +kernel) (by decide +kernel)
theorem q1263 : Cond.selects RX10 yX10_thrown yX10_thrown ∈ RQ := RQ_in 1263 (by decide +kernel) (by decide +kernel)
theorem q1264 : Cond.code yX10_thrown cX10_thrown 1 (some .int) ∈ RQ := RQ_in 1264 (by decide +kernel) (by decide +kernel)
theorem vk_L_86 : VK RL 86 9 yX10_thrown cX10_thrown 1 (some .int) 0 := ⟨RX10, TX10, 50, rfl, rfl, q1261, q1262, q1263, q98, q1264, ⟨by decide +kernel, by decide +kernel⟩, by decide +kernel, by decide⟩
theorem q727 : Cond.codeWith yL_net cL_net 5 (some .int) [((0), (10), (13), (13))] ∈ RQ := RQ_in 727 (by decide +kernel) (by decide +kernel)
theorem q725 : Cond.methodLink RL 89 yL_net ∈ RQ := RQ_in 725 (by decide +kernel) (by decide +kernel)
theorem q726 : Cond.static yL_net ∈ RQ := RQ_in 726 (by decide +kernel) (by decide +kernel)
theorem wk_L_89 : WK RL 89 yL_net cL_net 5 (some .int) [((0), (10), (13), (13))] 4 := ⟨q725, q726, q87, q727, ⟨by decide +kernel, by decide +kernel⟩, by decide +kernel, by decide⟩
theorem q1285 : Cond.methodLink RL 91 yX10_net ∈ RQ := RQ_in 1285 (by decide +kernel) (by decide +kernel)
theorem q1286 : Cond.instanceMethod yX10_net ∈ RQ := RQ_in 1286 (by decide +kernel) (by decide +kernel)
theorem q1287 : Cond.selects RX10 yX10_net yX10_net ∈ RQ := RQ_in 1287 (by decide +kernel) (by decide +kernel)
theorem q1288 : Cond.code yX10_net cX10_net 5 (some .int) ∈ RQ := RQ_in 1288 (by decide +kernel) (by decide +kernel)
theorem vk_L_91 : VK RL 91 9 yX10_net cX10_net 5 (some .int) 2 := ⟨RX10, TX10, 50, rfl, rfl, q1285, q1286, q1287, q98, q1288, ⟨by decide +kernel, by decide +kernel⟩, by decide +kernel, by decide⟩
theorem q458 : Cond.methodLink RL 92 yX9_places ∈ RQ := RQ_in 458 (by decide +kernel) (by decide +kernel)
theorem q459 : Cond.instanceMethod yX9_places ∈ RQ := RQ_in 459 (by decide +kernel) (by decide +kernel)
theorem q460 : Cond.selects RX9 yX9_places yX9_places ∈ RQ := RQ_in 460 (by decide +kernel) (by decide +kernel)
theorem q461 : Cond.code yX9_places cX9_places 1 (some .boolean) ∈ RQ := RQ_in 461 (by decide +kernel) (by decide +kernel)
theorem vk_L_92 : VK RL 92 8 yX9_places cX9_places 1 (some .boolean) 0 := ⟨RX9, TX9, 10, rfl, rfl, q458, q459, q460, q88, q461, ⟨by decide +kernel, by decide +kernel⟩, by decide +kernel, by decide⟩
theorem q1289 : Cond.methodLink RL 95 yX10_places ∈ RQ := RQ_in 1289 (by decide +kernel) (by decide +kernel)
theorem q1290 : Cond.instanceMethod yX10_places ∈ RQ := RQ_in 1290 (by decide +kernel) (by decide +kernel)
theorem q1291 : Cond.selects RX10 yX10_places yX10_places ∈ RQ := RQ_in 1291 (by decide +kernel) (by decide +kernel)
theorem q1292 : Cond.code yX10_places cX10_places 2 (some .boolean) ∈ RQ := RQ_in 1292 (by decide +kernel) (by decide +kernel)
theorem vk_L_95 : VK RL 95 9 yX10_places cX10_places 2 (some .boolean) 0 := ⟨RX10, TX10, 50, rfl, rfl, q1289, q1290, q1291, q98, q1292, ⟨by decide +kernel, by decide +kernel⟩, by decide +kernel, by decide⟩
theorem q741 : Cond.codeWith yL_put cL_put 7 (some .int) [((0), (21), (24), (13))] ∈ RQ := RQ_in 741 (by decide +kernel) (by decide +kernel)
theorem q739 : Cond.methodLink RL 96 yL_put ∈ RQ := RQ_in 739 (by decide +kernel) (by decide +kernel)
theorem q740 : Cond.static yL_put ∈ RQ := RQ_in 740 (by decide +kernel) (by decide +kernel)
theorem wk_L_96 : WK RL 96 yL_put cL_put 7 (some .int) [((0), (21), (24), (13))] 6 := ⟨q739, q740, q87, q741, ⟨by decide +kernel, by decide +kernel⟩, by decide +kernel, by decide⟩
theorem q1293 : Cond.methodLink RL 99 yX10_put ∈ RQ := RQ_in 1293 (by decide +kernel) (by decide +kernel)
theorem q1294 : Cond.instanceMethod yX10_put ∈ RQ := RQ_in 1294 (by decide +kernel) (by decide +kernel)
theorem q1295 : Cond.selects RX10 yX10_put yX10_put ∈ RQ := RQ_in 1295 (by decide +kernel) (by decide +kernel)
theorem q1296 : Cond.code yX10_put cX10_put 5 (some .boolean) ∈ RQ := RQ_in 1296 (by decide +kernel) (by decide +kernel)
theorem vk_L_99 : VK RL 99 9 yX10_put cX10_put 5 (some .boolean) 4 := ⟨RX10, TX10, 50, rfl, rfl, q1293, q1294, q1295, q98, q1296, ⟨by decide +kernel, by decide +kernel⟩, by decide +kernel, by decide⟩
theorem q1543 : Cond.constantLong RL 100 (4294967295) ∈ RQ := RQ_in 1543 (by decide +kernel) (by decide +kernel)
theorem q477 : Cond.methodLink RL 102 yX9_pair ∈ RQ := RQ_in 477 (by decide +kernel) (by decide +kernel)
theorem vk_L_102 : VK RL 102 8 yX9_pair cX9_pair 7 (some .boolean) 3 := ⟨RX9, TX9, 10, rfl, rfl, q477, q478, q479, q88, q480, ⟨by decide +kernel, by decide +kernel⟩, by decide +kernel, by decide⟩
theorem q1297 : Cond.methodLink RL 106 yX10_pair ∈ RQ := RQ_in 1297 (by decide +kernel) (by decide +kernel)
theorem q1298 : Cond.instanceMethod yX10_pair ∈ RQ := RQ_in 1298 (by decide +kernel) (by decide +kernel)
theorem q1299 : Cond.selects RX10 yX10_pair yX10_pair ∈ RQ := RQ_in 1299 (by decide +kernel) (by decide +kernel)
theorem q1300 : Cond.code yX10_pair cX10_pair 7 (some .boolean) ∈ RQ := RQ_in 1300 (by decide +kernel) (by decide +kernel)
theorem vk_L_106 : VK RL 106 9 yX10_pair cX10_pair 7 (some .boolean) 3 := ⟨RX10, TX10, 50, rfl, rfl, q1297, q1298, q1299, q98, q1300, ⟨by decide +kernel, by decide +kernel⟩, by decide +kernel, by decide⟩
theorem q534 : Cond.methodLink RL 107 yX9_cuts ∈ RQ := RQ_in 534 (by decide +kernel) (by decide +kernel)
theorem vk_L_107 : VK RL 107 8 yX9_cuts cX9_cuts 6 (some .boolean) 3 := ⟨RX9, TX9, 10, rfl, rfl, q534, q535, q536, q88, q537, ⟨by decide +kernel, by decide +kernel⟩, by decide +kernel, by decide⟩
theorem q1333 : Cond.methodLink RL 110 yX10_cuts ∈ RQ := RQ_in 1333 (by decide +kernel) (by decide +kernel)
theorem q1334 : Cond.instanceMethod yX10_cuts ∈ RQ := RQ_in 1334 (by decide +kernel) (by decide +kernel)
theorem q1335 : Cond.selects RX10 yX10_cuts yX10_cuts ∈ RQ := RQ_in 1335 (by decide +kernel) (by decide +kernel)
theorem q1336 : Cond.code yX10_cuts cX10_cuts 7 (some .boolean) ∈ RQ := RQ_in 1336 (by decide +kernel) (by decide +kernel)
theorem vk_L_110 : VK RL 110 9 yX10_cuts cX10_cuts 7 (some .boolean) 3 := ⟨RX10, TX10, 50, rfl, rfl, q1333, q1334, q1335, q98, q1336, ⟨by decide +kernel, by decide +kernel⟩, by decide +kernel, by decide⟩
theorem q549 : Cond.methodLink RL 111 yX9_tree ∈ RQ := RQ_in 549 (by decide +kernel) (by decide +kernel)
theorem vk_L_111 : VK RL 111 8 yX9_tree cX9_tree 7 (some .boolean) 4 := ⟨RX9, TX9, 10, rfl, rfl, q549, q550, q551, q88, q552, ⟨by decide +kernel, by decide +kernel⟩, by decide +kernel, by decide⟩
theorem q1353 : Cond.methodLink RL 115 yX10_tree ∈ RQ := RQ_in 1353 (by decide +kernel) (by decide +kernel)
theorem q1354 : Cond.instanceMethod yX10_tree ∈ RQ := RQ_in 1354 (by decide +kernel) (by decide +kernel)
theorem q1355 : Cond.selects RX10 yX10_tree yX10_tree ∈ RQ := RQ_in 1355 (by decide +kernel) (by decide +kernel)
theorem q1356 : Cond.code yX10_tree cX10_tree 8 (some .boolean) ∈ RQ := RQ_in 1356 (by decide +kernel) (by decide +kernel)
theorem vk_L_115 : VK RL 115 9 yX10_tree cX10_tree 8 (some .boolean) 4 := ⟨RX10, TX10, 50, rfl, rfl, q1353, q1354, q1355, q98, q1356, ⟨by decide +kernel, by decide +kernel⟩, by decide +kernel, by decide⟩
theorem q755 : Cond.codeWith yL_about cL_about 4 (some .int) [((0), (9), (12), (13))] ∈ RQ := RQ_in 755 (by decide +kernel) (by decide +kernel)
theorem q753 : Cond.methodLink RL 116 yL_about ∈ RQ := RQ_in 753 (by decide +kernel) (by decide +kernel)
theorem q754 : Cond.static yL_about ∈ RQ := RQ_in 754 (by decide +kernel) (by decide +kernel)
theorem wk_L_116 : WK RL 116 yL_about cL_about 4 (some .int) [((0), (9), (12), (13))] 3 := ⟨q753, q754, q87, q755, ⟨by decide +kernel, by decide +kernel⟩, by decide +kernel, by decide⟩
theorem q1373 : Cond.methodLink RL 119 yX10_about ∈ RQ := RQ_in 1373 (by decide +kernel) (by decide +kernel)
theorem q1374 : Cond.instanceMethod yX10_about ∈ RQ := RQ_in 1374 (by decide +kernel) (by decide +kernel)
theorem q1375 : Cond.selects RX10 yX10_about yX10_about ∈ RQ := RQ_in 1375 (by decide +kernel) (by decide +kernel)
theorem q1376 : Cond.code yX10_about cX10_about 6 (some .int) ∈ RQ := RQ_in 1376 (by decide +kernel) (by decide +kernel)
theorem vk_L_119 : VK RL 119 9 yX10_about cX10_about 6 (some .int) 1 := ⟨RX10, TX10, 50, rfl, rfl, q1373, q1374, q1375, q98, q1376, ⟨by decide +kernel, by decide +kernel⟩, by decide +kernel, by decide⟩
theorem q795 : Cond.codeWith yL_at cL_at 5 (some .int) [((0), (10), (13), (13))] ∈ RQ := RQ_in 795 (by decide +kernel) (by decide +kernel)
theorem q793 : Cond.methodLink RL 120 yL_at ∈ RQ := RQ_in 793 (by decide +kernel) (by decide +kernel)
theorem q794 : Cond.static yL_at ∈ RQ := RQ_in 794 (by decide +kernel) (by decide +kernel)
theorem wk_L_120 : WK RL 120 yL_at cL_at 5 (some .int) [((0), (10), (13), (13))] 4 := ⟨q793, q794, q87, q795, ⟨by decide +kernel, by decide +kernel⟩, by decide +kernel, by decide⟩
theorem q1401 : Cond.methodLink RL 122 yX10_at ∈ RQ := RQ_in 1401 (by decide +kernel) (by decide +kernel)
theorem q1402 : Cond.instanceMethod yX10_at ∈ RQ := RQ_in 1402 (by decide +kernel) (by decide +kernel)
theorem q1403 : Cond.selects RX10 yX10_at yX10_at ∈ RQ := RQ_in 1403 (by decide +kernel) (by decide +kernel)
theorem q1404 : Cond.code yX10_at cX10_at 3 (some .int) ∈ RQ := RQ_in 1404 (by decide +kernel) (by decide +kernel)
theorem vk_L_122 : VK RL 122 9 yX10_at cX10_at 3 (some .int) 2 := ⟨RX10, TX10, 50, rfl, rfl, q1401, q1402, q1403, q98, q1404, ⟨by decide +kernel, by decide +kernel⟩, by decide +kernel, by decide⟩
theorem q803 : Cond.codeWith yL_told cL_told 4 (some .int) [((0), (8), (11), (13))] ∈ RQ := RQ_in 803 (by decide +kernel) (by decide +kernel)
theorem q801 : Cond.methodLink RL 123 yL_told ∈ RQ := RQ_in 801 (by decide +kernel) (by decide +kernel)
theorem q802 : Cond.static yL_told ∈ RQ := RQ_in 802 (by decide +kernel) (by decide +kernel)
theorem wk_L_123 : WK RL 123 yL_told cL_told 4 (some .int) [((0), (8), (11), (13))] 3 := ⟨q801, q802, q87, q803, ⟨by decide +kernel, by decide +kernel⟩, by decide +kernel, by decide⟩
theorem q1405 : Cond.methodLink RL 125 yX10_told ∈ RQ := RQ_in 1405 (by decide +kernel) (by decide +kernel)
theorem q1406 : Cond.instanceMethod yX10_told ∈ RQ := RQ_in 1406 (by decide +kernel) (by decide +kernel)
theorem q1407 : Cond.selects RX10 yX10_told yX10_told ∈ RQ := RQ_in 1407 (by decide +kernel) (by decide +kernel)
theorem q1408 : Cond.code yX10_told cX10_told 3 (some .long) ∈ RQ := RQ_in 1408 (by decide +kernel) (by decide +kernel)
theorem vk_L_125 : VK RL 125 9 yX10_told cX10_told 3 (some .long) 1 := ⟨RX10, TX10, 50, rfl, rfl, q1405, q1406, q1407, q98, q1408, ⟨by decide +kernel, by decide +kernel⟩, by decide +kernel, by decide⟩
theorem q820 : Cond.codeWith yL_slack cL_slack 5 (some .int) [((0), (10), (13), (13))] ∈ RQ := RQ_in 820 (by decide +kernel) (by decide +kernel)
theorem q818 : Cond.methodLink RL 126 yL_slack ∈ RQ := RQ_in 818 (by decide +kernel) (by decide +kernel)
theorem q819 : Cond.static yL_slack ∈ RQ := RQ_in 819 (by decide +kernel) (by decide +kernel)
theorem wk_L_126 : WK RL 126 yL_slack cL_slack 5 (some .int) [((0), (10), (13), (13))] 4 := ⟨q818, q819, q87, q820, ⟨by decide +kernel, by decide +kernel⟩, by decide +kernel, by decide⟩
theorem q1413 : Cond.methodLink RL 128 yX10_slack ∈ RQ := RQ_in 1413 (by decide +kernel) (by decide +kernel)
theorem q1414 : Cond.instanceMethod yX10_slack ∈ RQ := RQ_in 1414 (by decide +kernel) (by decide +kernel)
theorem q1415 : Cond.selects RX10 yX10_slack yX10_slack ∈ RQ := RQ_in 1415 (by decide +kernel) (by decide +kernel)
theorem q1416 : Cond.code yX10_slack cX10_slack 3 (some .int) ∈ RQ := RQ_in 1416 (by decide +kernel) (by decide +kernel)
theorem vk_L_128 : VK RL 128 9 yX10_slack cX10_slack 3 (some .int) 2 := ⟨RX10, TX10, 50, rfl, rfl, q1413, q1414, q1415, q98, q1416, ⟨by decide +kernel, by decide +kernel⟩, by decide +kernel, by decide⟩
theorem q842 : Cond.codeWith yL_wires cL_wires 3 (some .int) [((0), (8), (11), (13))] ∈ RQ := RQ_in 842 (by decide +kernel) (by decide +kernel)
theorem q840 : Cond.methodLink RL 129 yL_wires ∈ RQ := RQ_in 840 (by decide +kernel) (by decide +kernel)
theorem q841 : Cond.static yL_wires ∈ RQ := RQ_in 841 (by decide +kernel) (by decide +kernel)
theorem wk_L_129 : WK RL 129 yL_wires cL_wires 3 (some .int) [((0), (8), (11), (13))] 2 := ⟨q840, q841, q87, q842, ⟨by decide +kernel, by decide +kernel⟩, by decide +kernel, by decide⟩
theorem q1421 : Cond.methodLink RL 132 yX10_wires ∈ RQ := RQ_in 1421 (by decide +kernel) (by decide +kernel)
theorem q1422 : Cond.instanceMethod yX10_wires ∈ RQ := RQ_in 1422 (by decide +kernel) (by decide +kernel)
theorem q1423 : Cond.selects RX10 yX10_wires yX10_wires ∈ RQ := RQ_in 1423 (by decide +kernel) (by decide +kernel)
theorem q1424 : Cond.code yX10_wires cX10_wires 9 (some .int) ∈ RQ := RQ_in 1424 (by decide +kernel) (by decide +kernel)
theorem vk_L_132 : VK RL 132 9 yX10_wires cX10_wires 9 (some .int) 0 := ⟨RX10, TX10, 50, rfl, rfl, q1421, q1422, q1423, q98, q1424, ⟨by decide +kernel, by decide +kernel⟩, by decide +kernel, by decide⟩
theorem q568 : Cond.methodLink RL 133 yX9_from ∈ RQ := RQ_in 568 (by decide +kernel) (by decide +kernel)
theorem q569 : Cond.instanceMethod yX9_from ∈ RQ := RQ_in 569 (by decide +kernel) (by decide +kernel)
theorem q570 : Cond.selects RX9 yX9_from yX9_from ∈ RQ := RQ_in 570 (by decide +kernel) (by decide +kernel)
theorem q571 : Cond.code yX9_from cX9_from 1 (some .boolean) ∈ RQ := RQ_in 571 (by decide +kernel) (by decide +kernel)
theorem vk_L_133 : VK RL 133 8 yX9_from cX9_from 1 (some .boolean) 0 := ⟨RX9, TX9, 10, rfl, rfl, q568, q569, q570, q88, q571, ⟨by decide +kernel, by decide +kernel⟩, by decide +kernel, by decide⟩
theorem q1427 : Cond.methodLink RL 136 yX10_from ∈ RQ := RQ_in 1427 (by decide +kernel) (by decide +kernel)
theorem q1428 : Cond.instanceMethod yX10_from ∈ RQ := RQ_in 1428 (by decide +kernel) (by decide +kernel)
theorem q1429 : Cond.selects RX10 yX10_from yX10_from ∈ RQ := RQ_in 1429 (by decide +kernel) (by decide +kernel)
theorem q1430 : Cond.code yX10_from cX10_from 2 (some .boolean) ∈ RQ := RQ_in 1430 (by decide +kernel) (by decide +kernel)
theorem vk_L_136 : VK RL 136 9 yX10_from cX10_from 2 (some .boolean) 0 := ⟨RX10, TX10, 50, rfl, rfl, q1427, q1428, q1429, q98, q1430, ⟨by decide +kernel, by decide +kernel⟩, by decide +kernel, by decide⟩
theorem q862 : Cond.codeWith yL_isCut cL_isCut 3 (some .int) [((0), (15), (18), (13))] ∈ RQ := RQ_in 862 (by decide +kernel) (by decide +kernel)
theorem q860 : Cond.methodLink RL 137 yL_isCut ∈ RQ := RQ_in 860 (by decide +kernel) (by decide +kernel)
theorem q861 : Cond.static yL_isCut ∈ RQ := RQ_in 861 (by decide +kernel) (by decide +kernel)
theorem wk_L_137 : WK RL 137 yL_isCut cL_isCut 3 (some .int) [((0), (15), (18), (13))] 2 := ⟨q860, q861, q87, q862, ⟨by decide +kernel, by decide +kernel⟩, by decide +kernel, by decide⟩
theorem q1439 : Cond.methodLink RL 139 yX10_isCut ∈ RQ := RQ_in 1439 (by decide +kernel) (by decide +kernel)
theorem q1440 : Cond.instanceMethod yX10_isCut ∈ RQ := RQ_in 1440 (by decide +kernel) (by decide +kernel)
theorem q1441 : Cond.selects RX10 yX10_isCut yX10_isCut ∈ RQ := RQ_in 1441 (by decide +kernel) (by decide +kernel)
theorem q1442 : Cond.code yX10_isCut cX10_isCut 1 (some .boolean) ∈ RQ := RQ_in 1442 (by decide +kernel) (by decide +kernel)
theorem vk_L_139 : VK RL 139 9 yX10_isCut cX10_isCut 1 (some .boolean) 0 := ⟨RX10, TX10, 50, rfl, rfl, q1439, q1440, q1441, q98, q1442, ⟨by decide +kernel, by decide +kernel⟩, by decide +kernel, by decide⟩
theorem q881 : Cond.codeWith yL_normal cL_normal 3 (some .int) [((0), (8), (11), (13))] ∈ RQ := RQ_in 881 (by decide +kernel) (by decide +kernel)
theorem q879 : Cond.methodLink RL 140 yL_normal ∈ RQ := RQ_in 879 (by decide +kernel) (by decide +kernel)
theorem q880 : Cond.static yL_normal ∈ RQ := RQ_in 880 (by decide +kernel) (by decide +kernel)
theorem wk_L_140 : WK RL 140 yL_normal cL_normal 3 (some .int) [((0), (8), (11), (13))] 2 := ⟨q879, q880, q87, q881, ⟨by decide +kernel, by decide +kernel⟩, by decide +kernel, by decide⟩
theorem q1447 : Cond.methodLink RL 142 yX10_normal ∈ RQ := RQ_in 1447 (by decide +kernel) (by decide +kernel)
theorem q1448 : Cond.instanceMethod yX10_normal ∈ RQ := RQ_in 1448 (by decide +kernel) (by decide +kernel)
theorem q1449 : Cond.selects RX10 yX10_normal yX10_normal ∈ RQ := RQ_in 1449 (by decide +kernel) (by decide +kernel)
theorem q1450 : Cond.code yX10_normal cX10_normal 3 (some .int) ∈ RQ := RQ_in 1450 (by decide +kernel) (by decide +kernel)
theorem vk_L_142 : VK RL 142 9 yX10_normal cX10_normal 3 (some .int) 0 := ⟨RX10, TX10, 50, rfl, rfl, q1447, q1448, q1449, q98, q1450, ⟨by decide +kernel, by decide +kernel⟩, by decide +kernel, by decide⟩
theorem q911 : Cond.codeWith yL_curve cL_curve 3 (some .int) [((0), (8), (11), (13))] ∈ RQ := RQ_in 911 (by decide +kernel) (by decide +kernel)
theorem q909 : Cond.methodLink RL 143 yL_curve ∈ RQ := RQ_in 909 (by decide +kernel) (by decide +kernel)
theorem q910 : Cond.static yL_curve ∈ RQ := RQ_in 910 (by decide +kernel) (by decide +kernel)
theorem wk_L_143 : WK RL 143 yL_curve cL_curve 3 (some .int) [((0), (8), (11), (13))] 2 := ⟨q909, q910, q87, q911, ⟨by decide +kernel, by decide +kernel⟩, by decide +kernel, by decide⟩
theorem q1459 : Cond.methodLink RL 145 yX10_curve ∈ RQ := RQ_in 1459 (by decide +kernel) (by decide +kernel)
theorem q1460 : Cond.instanceMethod yX10_curve ∈ RQ := RQ_in 1460 (by decide +kernel) (by decide +kernel)
theorem q1461 : Cond.selects RX10 yX10_curve yX10_curve ∈ RQ := RQ_in 1461 (by decide +kernel) (by decide +kernel)
theorem q1462 : Cond.code yX10_curve cX10_curve 1 (some .int) ∈ RQ := RQ_in 1462 (by decide +kernel) (by decide +kernel)
theorem vk_L_145 : VK RL 145 9 yX10_curve cX10_curve 1 (some .int) 0 := ⟨RX10, TX10, 50, rfl, rfl, q1459, q1460, q1461, q98, q1462, ⟨by decide +kernel, by decide +kernel⟩, by decide +kernel, by decide⟩
theorem q949 : Cond.codeWith yL_shape cL_shape 5 (some .int) [((0), (10), (13), (13))] ∈ RQ := RQ_in 949 (by decide +kernel) (by decide +kernel)
theorem q947 : Cond.methodLink RL 146 yL_shape ∈ RQ := RQ_in 947 (by decide +kernel) (by decide +kernel)
theorem q948 : Cond.static yL_shape ∈ RQ := RQ_in 948 (by decide +kernel) (by decide +kernel)
theorem wk_L_146 : WK RL 146 yL_shape cL_shape 5 (some .int) [((0), (10), (13), (13))] 4 := ⟨q947, q948, q87, q949, ⟨by decide +kernel, by decide +kernel⟩, by decide +kernel, by decide⟩
theorem q1471 : Cond.methodLink RL 148 yX10_shape ∈ RQ := RQ_in 1471 (by decide +kernel) (by decide +kernel)
theorem q1472 : Cond.instanceMethod yX10_shape ∈ RQ := RQ_in 1472 (by decide +kernel) (by decide +kernel)
theorem q1473 : Cond.selects RX10 yX10_shape yX10_shape ∈ RQ := RQ_in 1473 (by decide +kernel) (by decide +kernel)
theorem q1474 : Cond.code yX10_shape cX10_shape 3 (some .int) ∈ RQ := RQ_in 1474 (by decide +kernel) (by decide +kernel)
theorem vk_L_148 : VK RL 148 9 yX10_shape cX10_shape 3 (some .int) 2 := ⟨RX10, TX10, 50, rfl, rfl, q1471, q1472, q1473, q98, q1474, ⟨by decide +kernel, by decide +kernel⟩, by decide +kernel, by decide⟩
theorem q962 : Cond.codeWith yL_best cL_best 4 (some .int) [((0), (9), (12), (13))] ∈ RQ := RQ_in 962 (by decide +kernel) (by decide +kernel)
theorem q960 : Cond.methodLink RL 149 yL_best ∈ RQ := RQ_in 960 (by decide +kernel) (by decide +kernel)
theorem q961 : Cond.static yL_best ∈ RQ := RQ_in 961 (by decide +kernel) (by decide +kernel)
theorem wk_L_149 : WK RL 149 yL_best cL_best 4 (some .int) [((0), (9), (12), (13))] 3 := ⟨q960, q961, q87, q962, ⟨by decide +kernel, by decide +kernel⟩, by decide +kernel, by decide⟩
theorem q1475 : Cond.methodLink RL 151 yX10_best ∈ RQ := RQ_in 1475 (by decide +kernel) (by decide +kernel)
theorem q1476 : Cond.instanceMethod yX10_best ∈ RQ := RQ_in 1476 (by decide +kernel) (by decide +kernel)
theorem q1477 : Cond.selects RX10 yX10_best yX10_best ∈ RQ := RQ_in 1477 (by decide +kernel) (by decide +kernel)
theorem q1478 : Cond.code yX10_best cX10_best 4 (some .int) ∈ RQ := RQ_in 1478 (by decide +kernel) (by decide +kernel)
theorem vk_L_151 : VK RL 151 9 yX10_best cX10_best 4 (some .int) 1 := ⟨RX10, TX10, 50, rfl, rfl, q1475, q1476, q1477, q98, q1478, ⟨by decide +kernel, by decide +kernel⟩, by decide +kernel, by decide⟩
theorem q612 : Cond.methodLink RL 152 yX9_swap ∈ RQ := RQ_in 612 (by decide +kernel) (by decide +kernel)
theorem q613 : Cond.instanceMethod yX9_swap ∈ RQ := RQ_in 613 (by decide +kernel) (by decide +kernel)
theorem q614 : Cond.selects RX9 yX9_swap yX9_swap ∈ RQ := RQ_in 614 (by decide +kernel) (by decide +kernel)
theorem q615 : Cond.code yX9_swap cX9_swap 4 (some .boolean) ∈ RQ := RQ_in 615 (by decide +kernel) (by decide +kernel)
theorem vk_L_152 : VK RL 152 8 yX9_swap cX9_swap 4 (some .boolean) 3 := ⟨RX9, TX9, 10, rfl, rfl, q612, q613, q614, q88, q615, ⟨by decide +kernel, by decide +kernel⟩, by decide +kernel, by decide⟩
theorem q1479 : Cond.methodLink RL 156 yX10_swap ∈ RQ := RQ_in 1479 (by decide +kernel) (by decide +kernel)
theorem q1480 : Cond.instanceMethod yX10_swap ∈ RQ := RQ_in 1480 (by decide +kernel) (by decide +kernel)
theorem q1481 : Cond.selects RX10 yX10_swap yX10_swap ∈ RQ := RQ_in 1481 (by decide +kernel) (by decide +kernel)
theorem q1482 : Cond.code yX10_swap cX10_swap 6 (some .boolean) ∈ RQ := RQ_in 1482 (by decide +kernel) (by decide +kernel)
theorem vk_L_156 : VK RL 156 9 yX10_swap cX10_swap 6 (some .boolean) 3 := ⟨RX10, TX10, 50, rfl, rfl, q1479, q1480, q1481, q98, q1482, ⟨by decide +kernel, by decide +kernel⟩, by decide +kernel, by decide⟩
theorem q978 : Cond.codeWith yL_least cL_least 4 (some .int) [((0), (9), (12), (13))] ∈ RQ := RQ_in 978 (by decide +kernel) (by decide +kernel)
theorem q976 : Cond.methodLink RL 157 yL_least ∈ RQ := RQ_in 976 (by decide +kernel) (by decide +kernel)
theorem q977 : Cond.static yL_least ∈ RQ := RQ_in 977 (by decide +kernel) (by decide +kernel)
theorem wk_L_157 : WK RL 157 yL_least cL_least 4 (some .int) [((0), (9), (12), (13))] 3 := ⟨q976, q977, q87, q978, ⟨by decide +kernel, by decide +kernel⟩, by decide +kernel, by decide⟩
theorem q1483 : Cond.methodLink RL 159 yX10_least ∈ RQ := RQ_in 1483 (by decide +kernel) (by decide +kernel)
theorem q1484 : Cond.instanceMethod yX10_least ∈ RQ := RQ_in 1484 (by decide +kernel) (by decide +kernel)
theorem q1485 : Cond.selects RX10 yX10_least yX10_least ∈ RQ := RQ_in 1485 (by decide +kernel) (by decide +kernel)
theorem q1486 : Cond.code yX10_least cX10_least 3 (some .int) ∈ RQ := RQ_in 1486 (by decide +kernel) (by decide +kernel)
theorem vk_L_159 : VK RL 159 9 yX10_least cX10_least 3 (some .int) 1 := ⟨RX10, TX10, 50, rfl, rfl, q1483, q1484, q1485, q98, q1486, ⟨by decide +kernel, by decide +kernel⟩, by decide +kernel, by decide⟩
theorem q1078 : Cond.codeWith yL_count cL_count 5 (some .int) [((0), (9), (12), (13))] ∈ RQ := RQ_in 1078 (by decide +kernel) (by decide +kernel)
theorem q1076 : Cond.methodLink RL 160 yL_count ∈ RQ := RQ_in 1076 (by decide +kernel) (by decide +kernel)
theorem q1077 : Cond.static yL_count ∈ RQ := RQ_in 1077 (by decide +kernel) (by decide +kernel)
theorem wk_L_160 : WK RL 160 yL_count cL_count 5 (some .int) [((0), (9), (12), (13))] 4 := ⟨q1076, q1077, q87, q1078, ⟨by decide +kernel, by decide +kernel⟩, by decide +kernel, by decide⟩
theorem q1518 : Cond.methodLink RL 162 yX10_count ∈ RQ := RQ_in 1518 (by decide +kernel) (by decide +kernel)
theorem q1519 : Cond.instanceMethod yX10_count ∈ RQ := RQ_in 1519 (by decide +kernel) (by decide +kernel)
theorem q1520 : Cond.selects RX10 yX10_count yX10_count ∈ RQ := RQ_in 1520 (by decide +kernel) (by decide +kernel)
theorem q1521 : Cond.code yX10_count cX10_count 6 (some .long) ∈ RQ := RQ_in 1521 (by decide +kernel) (by decide +kernel)
theorem vk_L_162 : VK RL 162 9 yX10_count cX10_count 6 (some .long) 2 := ⟨RX10, TX10, 50, rfl, rfl, q1518, q1519, q1520, q98, q1521, ⟨by decide +kernel, by decide +kernel⟩, by decide +kernel, by decide⟩
theorem q1089 : Cond.codeWith yL_rank cL_rank 3 (some .int) [((0), (7), (10), (13))] ∈ RQ := RQ_in 1089 (by decide +kernel) (by decide +kernel)
theorem q1087 : Cond.methodLink RL 163 yL_rank ∈ RQ := RQ_in 1087 (by decide +kernel) (by decide +kernel)
theorem q1088 : Cond.static yL_rank ∈ RQ := RQ_in 1088 (by decide +kernel) (by decide +kernel)
theorem wk_L_163 : WK RL 163 yL_rank cL_rank 3 (some .int) [((0), (7), (10), (13))] 2 := ⟨q1087, q1088, q87, q1089, ⟨by decide +kernel, by decide +kernel⟩, by decide +kernel, by decide⟩
theorem q1527 : Cond.methodLink RL 165 yX10_rank ∈ RQ := RQ_in 1527 (by decide +kernel) (by decide +kernel)
theorem q1528 : Cond.instanceMethod yX10_rank ∈ RQ := RQ_in 1528 (by decide +kernel) (by decide +kernel)
theorem q1529 : Cond.selects RX10 yX10_rank yX10_rank ∈ RQ := RQ_in 1529 (by decide +kernel) (by decide +kernel)
theorem q1530 : Cond.code yX10_rank cX10_rank 1 (some .long) ∈ RQ := RQ_in 1530 (by decide +kernel) (by decide +kernel)
theorem vk_L_165 : VK RL 165 9 yX10_rank cX10_rank 1 (some .long) 0 := ⟨RX10, TX10, 50, rfl, rfl, q1527, q1528, q1529, q98, q1530, ⟨by decide +kernel, by decide +kernel⟩, by decide +kernel, by decide⟩
theorem q627 : Cond.methodLink RL 166 yX9_of ∈ RQ := RQ_in 627 (by decide +kernel) (by decide +kernel)
theorem q628 : Cond.instanceMethod yX9_of ∈ RQ := RQ_in 628 (by decide +kernel) (by decide +kernel)
theorem q629 : Cond.selects RX9 yX9_of yX9_of ∈ RQ := RQ_in 629 (by decide +kernel) (by decide +kernel)
theorem q630 : Cond.code yX9_of cX9_of 5 (some .boolean) ∈ RQ := RQ_in 630 (by decide +kernel) (by decide +kernel)
theorem vk_L_166 : VK RL 166 8 yX9_of cX9_of 5 (some .boolean) 1 := ⟨RX9, TX9, 10, rfl, rfl, q627, q628, q629, q88, q630, ⟨by decide +kernel, by decide +kernel⟩, by decide +kernel, by decide⟩
theorem q1535 : Cond.methodLink RL 170 yX10_of ∈ RQ := RQ_in 1535 (by decide +kernel) (by decide +kernel)
theorem q1536 : Cond.instanceMethod yX10_of ∈ RQ := RQ_in 1536 (by decide +kernel) (by decide +kernel)
theorem q1537 : Cond.selects RX10 yX10_of yX10_of ∈ RQ := RQ_in 1537 (by decide +kernel) (by decide +kernel)
theorem q1538 : Cond.code yX10_of cX10_of 3 (some .boolean) ∈ RQ := RQ_in 1538 (by decide +kernel) (by decide +kernel)
theorem vk_L_170 : VK RL 170 9 yX10_of cX10_of 3 (some .boolean) 1 := ⟨RX10, TX10, 50, rfl, rfl, q1535, q1536, q1537, q98, q1538, ⟨by decide +kernel, by decide +kernel⟩, by decide +kernel, by decide⟩
set_option maxRecDepth 20000 in
theorem k_L_law_0 : ckD cL_law [(0, .new 8, 3, 3, 0), (3, .dup, 1, 4, 0), (4, .invokespecial 67, 3, 7, 0), (7, .astore_n 1, 1, 8, 0), (8, .new 68, 3, 11, 0), (11, .dup, 1, 12, 0), (12, .invokespecial 70, 3, 15, 0), (15, .astore_n 2, 1, 16, 0), (16, .iconst 1, 1, 17, 0), (17, .newarray .long, 2, 19, 0), (19, .astore_n 3, 1, 20, 0), (20, .iconst 0, 1, 21, 0), (21, .istore 4, 2, 23, 0), (23, .iload 4, 2, 25, 0), (25, .aload_n 0, 1, 26, 0), (26, .arraylength, 1, 27, 0), (27, .bipush 7, 2, 29, 0), (29, .isub, 1, 30, 0), (30, .if_icmp .gt 1666, 3, 33, 1696), (33, .aload_n 0, 1, 34, 0), (34, .iload 4, 2, 36, 0), (36, .iaload, 1, 37, 0), (37, .bipush 31, 2, 39, 0), (39, .iand, 1, 40, 0), (40, .tableswitch 1650 0 24 #[116, 181, 194, 262, 330, 343, 458, 571, 684, 811, 867, 935, 990, 1058, 1102, 1115, 1166, 1210, 1254, 1322, 1378, 1427, 1483, 1550, 1593], 116, 156, 0), (156, .aload_n 1, 1, 157, 0), (157, .aload_n 0, 1, 158, 0), (158, .iload 4, 2, 160, 0), (160, .iconst 1, 1, 161, 0), (161, .iadd, 1, 162, 0), (162, .iaload, 1, 163, 0), (163, .aload_n 0, 1, 164, 0), (164, .iload 4, 2, 166, 0), (166, .iconst 2, 1, 167, 0), (167, .iadd, 1, 168, 0), (168, .iaload, 1, 169, 0), (169, .aload_n 0, 1, 170, 0), (170, .iload 4, 2, 172, 0), (172, .iconst 3, 1, 173, 0), (173, .iadd, 1, 174, 0)] = true := by decide +kernel
set_option maxRecDepth 20000 in
theorem k_L_law_1 : ckD cL_law [(174, .iaload, 1, 175, 0), (175, .ifCond .eq 7, 3, 178, 182), (178, .iconst 1, 1, 179, 0), (179, .goto 4, 3, 182, 183), (182, .iconst 0, 1, 183, 0), (183, .invokevirtual 71, 3, 186, 0), (186, .aload_n 2, 1, 187, 0), (187, .aload_n 0, 1, 188, 0), (188, .iload 4, 2, 190, 0), (190, .iconst 1, 1, 191, 0), (191, .iadd, 1, 192, 0), (192, .iaload, 1, 193, 0), (193, .aload_n 0, 1, 194, 0), (194, .iload 4, 2, 196, 0), (196, .iconst 2, 1, 197, 0), (197, .iadd, 1, 198, 0), (198, .iaload, 1, 199, 0), (199, .aload_n 0, 1, 200, 0), (200, .iload 4, 2, 202, 0), (202, .iconst 3, 1, 203, 0), (203, .iadd, 1, 204, 0), (204, .iaload, 1, 205, 0), (205, .ifCond .eq 7, 3, 208, 212), (208, .iconst 1, 1, 209, 0), (209, .goto 4, 3, 212, 213), (212, .iconst 0, 1, 213, 0), (213, .invokevirtual 75, 3, 216, 0), (216, .if_icmp .eq 1474, 3, 219, 1690), (219, .iconst 0, 1, 220, 0), (220, .ireturn, 1, 221, 0), (221, .aload_n 1, 1, 222, 0), (222, .invokevirtual 76, 3, 225, 0), (225, .aload_n 2, 1, 226, 0), (226, .invokevirtual 79, 3, 229, 0), (229, .if_icmp .eq 1461, 3, 232, 1690), (232, .iconst 0, 1, 233, 0), (233, .ireturn, 1, 234, 0), (234, .aload_n 1, 1, 235, 0), (235, .aload_n 0, 1, 236, 0), (236, .iload 4, 2, 238, 0)] = true := by decide +kernel
set_option maxRecDepth 20000 in
theorem k_L_law_2 : ckD cL_law [(238, .iconst 1, 1, 239, 0), (239, .iadd, 1, 240, 0), (240, .iaload, 1, 241, 0), (241, .aload_n 0, 1, 242, 0), (242, .iload 4, 2, 244, 0), (244, .iconst 2, 1, 245, 0), (245, .iadd, 1, 246, 0), (246, .iaload, 1, 247, 0), (247, .aload_n 3, 1, 248, 0), (248, .invokestatic 80, 3, 251, 0), (251, .istore 5, 2, 253, 0), (253, .aload_n 2, 1, 254, 0), (254, .aload_n 0, 1, 255, 0), (255, .iload 4, 2, 257, 0), (257, .iconst 1, 1, 258, 0), (258, .iadd, 1, 259, 0), (259, .iaload, 1, 260, 0), (260, .aload_n 0, 1, 261, 0), (261, .iload 4, 2, 263, 0), (263, .iconst 2, 1, 264, 0), (264, .iadd, 1, 265, 0), (265, .iaload, 1, 266, 0), (266, .invokevirtual 85, 3, 269, 0), (269, .istore 6, 2, 271, 0), (271, .aload_n 2, 1, 272, 0), (272, .invokevirtual 86, 3, 275, 0), (275, .iload 5, 2, 277, 0), (277, .if_icmp .eq 5, 3, 280, 282), (280, .iconst 0, 1, 281, 0), (281, .ireturn, 1, 282, 0), (282, .iload 5, 2, 284, 0), (284, .ifCond .ne 15, 3, 287, 299), (287, .aload_n 3, 1, 288, 0), (288, .iconst 0, 1, 289, 0), (289, .laload, 1, 290, 0), (290, .iload 6, 2, 292, 0), (292, .i2l, 1, 293, 0), (293, .lcmp, 1, 294, 0), (294, .ifCond .eq 5, 3, 297, 299), (297, .iconst 0, 1, 298, 0)] = true := by decide +kernel
set_option maxRecDepth 20000 in
theorem k_L_law_3 : ckD cL_law [(298, .ireturn, 1, 299, 0), (299, .goto 1391, 3, 302, 1690), (302, .aload_n 1, 1, 303, 0), (303, .aload_n 0, 1, 304, 0), (304, .iload 4, 2, 306, 0), (306, .iconst 1, 1, 307, 0), (307, .iadd, 1, 308, 0), (308, .iaload, 1, 309, 0), (309, .aload_n 0, 1, 310, 0), (310, .iload 4, 2, 312, 0), (312, .iconst 2, 1, 313, 0), (313, .iadd, 1, 314, 0), (314, .iaload, 1, 315, 0), (315, .aload_n 3, 1, 316, 0), (316, .invokestatic 89, 3, 319, 0), (319, .istore 5, 2, 321, 0), (321, .aload_n 2, 1, 322, 0), (322, .aload_n 0, 1, 323, 0), (323, .iload 4, 2, 325, 0), (325, .iconst 1, 1, 326, 0), (326, .iadd, 1, 327, 0), (327, .iaload, 1, 328, 0), (328, .aload_n 0, 1, 329, 0), (329, .iload 4, 2, 331, 0), (331, .iconst 2, 1, 332, 0), (332, .iadd, 1, 333, 0), (333, .iaload, 1, 334, 0), (334, .invokevirtual 91, 3, 337, 0), (337, .istore 6, 2, 339, 0), (339, .aload_n 2, 1, 340, 0), (340, .invokevirtual 86, 3, 343, 0), (343, .iload 5, 2, 345, 0), (345, .if_icmp .eq 5, 3, 348, 350), (348, .iconst 0, 1, 349, 0), (349, .ireturn, 1, 350, 0), (350, .iload 5, 2, 352, 0), (352, .ifCond .ne 15, 3, 355, 367), (355, .aload_n 3, 1, 356, 0), (356, .iconst 0, 1, 357, 0), (357, .laload, 1, 358, 0)] = true := by decide +kernel
set_option maxRecDepth 20000 in
theorem k_L_law_4 : ckD cL_law [(358, .iload 6, 2, 360, 0), (360, .i2l, 1, 361, 0), (361, .lcmp, 1, 362, 0), (362, .ifCond .eq 5, 3, 365, 367), (365, .iconst 0, 1, 366, 0), (366, .ireturn, 1, 367, 0), (367, .goto 1323, 3, 370, 1690), (370, .aload_n 1, 1, 371, 0), (371, .invokevirtual 92, 3, 374, 0), (374, .aload_n 2, 1, 375, 0), (375, .invokevirtual 95, 3, 378, 0), (378, .if_icmp .eq 1312, 3, 381, 1690), (381, .iconst 0, 1, 382, 0), (382, .ireturn, 1, 383, 0), (383, .aload_n 1, 1, 384, 0), (384, .aload_n 0, 1, 385, 0), (385, .iload 4, 2, 387, 0), (387, .iconst 1, 1, 388, 0), (388, .iadd, 1, 389, 0), (389, .iaload, 1, 390, 0), (390, .aload_n 0, 1, 391, 0), (391, .iload 4, 2, 393, 0), (393, .iconst 2, 1, 394, 0), (394, .iadd, 1, 395, 0), (395, .iaload, 1, 396, 0), (396, .aload_n 0, 1, 397, 0), (397, .iload 4, 2, 399, 0), (399, .iconst 3, 1, 400, 0), (400, .iadd, 1, 401, 0), (401, .iaload, 1, 402, 0), (402, .aload_n 0, 1, 403, 0), (403, .iload 4, 2, 405, 0), (405, .iconst 4, 1, 406, 0), (406, .iadd, 1, 407, 0), (407, .iaload, 1, 408, 0), (408, .ifCond .eq 7, 3, 411, 415), (411, .iconst 1, 1, 412, 0), (412, .goto 4, 3, 415, 416), (415, .iconst 0, 1, 416, 0), (416, .aload_n 3, 1, 417, 0)] = true := by decide +kernel
set_option maxRecDepth 20000 in
theorem k_L_law_5 : ckD cL_law [(417, .invokestatic 96, 3, 420, 0), (420, .istore 5, 2, 422, 0), (422, .aload_n 2, 1, 423, 0), (423, .aload_n 0, 1, 424, 0), (424, .iload 4, 2, 426, 0), (426, .iconst 1, 1, 427, 0), (427, .iadd, 1, 428, 0), (428, .iaload, 1, 429, 0), (429, .aload_n 0, 1, 430, 0), (430, .iload 4, 2, 432, 0), (432, .iconst 2, 1, 433, 0), (433, .iadd, 1, 434, 0), (434, .iaload, 1, 435, 0), (435, .aload_n 0, 1, 436, 0), (436, .iload 4, 2, 438, 0), (438, .iconst 3, 1, 439, 0), (439, .iadd, 1, 440, 0), (440, .iaload, 1, 441, 0), (441, .aload_n 0, 1, 442, 0), (442, .iload 4, 2, 444, 0), (444, .iconst 4, 1, 445, 0), (445, .iadd, 1, 446, 0), (446, .iaload, 1, 447, 0), (447, .ifCond .eq 7, 3, 450, 454), (450, .iconst 1, 1, 451, 0), (451, .goto 4, 3, 454, 455), (454, .iconst 0, 1, 455, 0), (455, .invokevirtual 99, 3, 458, 0), (458, .istore 6, 2, 460, 0), (460, .aload_n 2, 1, 461, 0), (461, .invokevirtual 86, 3, 464, 0), (464, .iload 5, 2, 466, 0), (466, .if_icmp .eq 5, 3, 469, 471), (469, .iconst 0, 1, 470, 0), (470, .ireturn, 1, 471, 0), (471, .iload 5, 2, 473, 0), (473, .ifCond .ne 22, 3, 476, 495), (476, .aload_n 3, 1, 477, 0), (477, .iconst 0, 1, 478, 0), (478, .laload, 1, 479, 0)] = true := by decide +kernel
set_option maxRecDepth 20000 in
theorem k_L_law_6 : ckD cL_law [(479, .iload 6, 2, 481, 0), (481, .ifCond .eq 7, 3, 484, 488), (484, .lconst 1, 1, 485, 0), (485, .goto 4, 3, 488, 489), (488, .lconst 0, 1, 489, 0), (489, .lcmp, 1, 490, 0), (490, .ifCond .eq 5, 3, 493, 495), (493, .iconst 0, 1, 494, 0), (494, .ireturn, 1, 495, 0), (495, .goto 1195, 3, 498, 1690), (498, .aload_n 1, 1, 499, 0), (499, .aload_n 0, 1, 500, 0), (500, .iload 4, 2, 502, 0), (502, .iconst 1, 1, 503, 0), (503, .iadd, 1, 504, 0), (504, .iaload, 1, 505, 0), (505, .i2l, 1, 506, 0), (506, .bipush 32, 2, 508, 0), (508, .lshl, 1, 509, 0), (509, .aload_n 0, 1, 510, 0), (510, .iload 4, 2, 512, 0), (512, .iconst 2, 1, 513, 0), (513, .iadd, 1, 514, 0), (514, .iaload, 1, 515, 0), (515, .i2l, 1, 516, 0), (516, .ldc2_w 100, 3, 519, 0), (519, .land, 1, 520, 0), (520, .lor, 1, 521, 0), (521, .aload_n 0, 1, 522, 0), (522, .iload 4, 2, 524, 0), (524, .iconst 3, 1, 525, 0), (525, .iadd, 1, 526, 0), (526, .iaload, 1, 527, 0), (527, .i2l, 1, 528, 0), (528, .bipush 32, 2, 530, 0), (530, .lshl, 1, 531, 0), (531, .aload_n 0, 1, 532, 0), (532, .iload 4, 2, 534, 0), (534, .iconst 4, 1, 535, 0), (535, .iadd, 1, 536, 0)] = true := by decide +kernel
set_option maxRecDepth 20000 in
theorem k_L_law_7 : ckD cL_law [(536, .iaload, 1, 537, 0), (537, .i2l, 1, 538, 0), (538, .ldc2_w 100, 3, 541, 0), (541, .land, 1, 542, 0), (542, .lor, 1, 543, 0), (543, .aload_n 0, 1, 544, 0), (544, .iload 4, 2, 546, 0), (546, .iconst 5, 1, 547, 0), (547, .iadd, 1, 548, 0), (548, .iaload, 1, 549, 0), (549, .invokevirtual 102, 3, 552, 0), (552, .aload_n 2, 1, 553, 0), (553, .aload_n 0, 1, 554, 0), (554, .iload 4, 2, 556, 0), (556, .iconst 1, 1, 557, 0), (557, .iadd, 1, 558, 0), (558, .iaload, 1, 559, 0), (559, .i2l, 1, 560, 0), (560, .bipush 32, 2, 562, 0), (562, .lshl, 1, 563, 0), (563, .aload_n 0, 1, 564, 0), (564, .iload 4, 2, 566, 0), (566, .iconst 2, 1, 567, 0), (567, .iadd, 1, 568, 0), (568, .iaload, 1, 569, 0), (569, .i2l, 1, 570, 0), (570, .ldc2_w 100, 3, 573, 0), (573, .land, 1, 574, 0), (574, .lor, 1, 575, 0), (575, .aload_n 0, 1, 576, 0), (576, .iload 4, 2, 578, 0), (578, .iconst 3, 1, 579, 0), (579, .iadd, 1, 580, 0), (580, .iaload, 1, 581, 0), (581, .i2l, 1, 582, 0), (582, .bipush 32, 2, 584, 0), (584, .lshl, 1, 585, 0), (585, .aload_n 0, 1, 586, 0), (586, .iload 4, 2, 588, 0), (588, .iconst 4, 1, 589, 0)] = true := by decide +kernel
set_option maxRecDepth 20000 in
theorem k_L_law_8 : ckD cL_law [(589, .iadd, 1, 590, 0), (590, .iaload, 1, 591, 0), (591, .i2l, 1, 592, 0), (592, .ldc2_w 100, 3, 595, 0), (595, .land, 1, 596, 0), (596, .lor, 1, 597, 0), (597, .aload_n 0, 1, 598, 0), (598, .iload 4, 2, 600, 0), (600, .iconst 5, 1, 601, 0), (601, .iadd, 1, 602, 0), (602, .iaload, 1, 603, 0), (603, .invokevirtual 106, 3, 606, 0), (606, .if_icmp .eq 1084, 3, 609, 1690), (609, .iconst 0, 1, 610, 0), (610, .ireturn, 1, 611, 0), (611, .aload_n 1, 1, 612, 0), (612, .aload_n 0, 1, 613, 0), (613, .iload 4, 2, 615, 0), (615, .iconst 1, 1, 616, 0), (616, .iadd, 1, 617, 0), (617, .iaload, 1, 618, 0), (618, .i2l, 1, 619, 0), (619, .bipush 32, 2, 621, 0), (621, .lshl, 1, 622, 0), (622, .aload_n 0, 1, 623, 0), (623, .iload 4, 2, 625, 0), (625, .iconst 2, 1, 626, 0), (626, .iadd, 1, 627, 0), (627, .iaload, 1, 628, 0), (628, .i2l, 1, 629, 0), (629, .ldc2_w 100, 3, 632, 0), (632, .land, 1, 633, 0), (633, .lor, 1, 634, 0), (634, .aload_n 0, 1, 635, 0), (635, .iload 4, 2, 637, 0), (637, .iconst 3, 1, 638, 0), (638, .iadd, 1, 639, 0), (639, .iaload, 1, 640, 0), (640, .i2l, 1, 641, 0), (641, .bipush 32, 2, 643, 0)] = true := by decide +kernel
set_option maxRecDepth 20000 in
theorem k_L_law_9 : ckD cL_law [(643, .lshl, 1, 644, 0), (644, .aload_n 0, 1, 645, 0), (645, .iload 4, 2, 647, 0), (647, .iconst 4, 1, 648, 0), (648, .iadd, 1, 649, 0), (649, .iaload, 1, 650, 0), (650, .i2l, 1, 651, 0), (651, .ldc2_w 100, 3, 654, 0), (654, .land, 1, 655, 0), (655, .lor, 1, 656, 0), (656, .aload_n 0, 1, 657, 0), (657, .iload 4, 2, 659, 0), (659, .iconst 5, 1, 660, 0), (660, .iadd, 1, 661, 0), (661, .iaload, 1, 662, 0), (662, .invokevirtual 107, 3, 665, 0), (665, .aload_n 2, 1, 666, 0), (666, .aload_n 0, 1, 667, 0), (667, .iload 4, 2, 669, 0), (669, .iconst 1, 1, 670, 0), (670, .iadd, 1, 671, 0), (671, .iaload, 1, 672, 0), (672, .i2l, 1, 673, 0), (673, .bipush 32, 2, 675, 0), (675, .lshl, 1, 676, 0), (676, .aload_n 0, 1, 677, 0), (677, .iload 4, 2, 679, 0), (679, .iconst 2, 1, 680, 0), (680, .iadd, 1, 681, 0), (681, .iaload, 1, 682, 0), (682, .i2l, 1, 683, 0), (683, .ldc2_w 100, 3, 686, 0), (686, .land, 1, 687, 0), (687, .lor, 1, 688, 0), (688, .aload_n 0, 1, 689, 0), (689, .iload 4, 2, 691, 0), (691, .iconst 3, 1, 692, 0), (692, .iadd, 1, 693, 0), (693, .iaload, 1, 694, 0), (694, .i2l, 1, 695, 0)] = true := by decide +kernel
set_option maxRecDepth 20000 in
theorem k_L_law_10 : ckD cL_law [(695, .bipush 32, 2, 697, 0), (697, .lshl, 1, 698, 0), (698, .aload_n 0, 1, 699, 0), (699, .iload 4, 2, 701, 0), (701, .iconst 4, 1, 702, 0), (702, .iadd, 1, 703, 0), (703, .iaload, 1, 704, 0), (704, .i2l, 1, 705, 0), (705, .ldc2_w 100, 3, 708, 0), (708, .land, 1, 709, 0), (709, .lor, 1, 710, 0), (710, .aload_n 0, 1, 711, 0), (711, .iload 4, 2, 713, 0), (713, .iconst 5, 1, 714, 0), (714, .iadd, 1, 715, 0), (715, .iaload, 1, 716, 0), (716, .invokevirtual 110, 3, 719, 0), (719, .if_icmp .eq 971, 3, 722, 1690), (722, .iconst 0, 1, 723, 0), (723, .ireturn, 1, 724, 0), (724, .aload_n 1, 1, 725, 0), (725, .aload_n 0, 1, 726, 0), (726, .iload 4, 2, 728, 0), (728, .iconst 1, 1, 729, 0), (729, .iadd, 1, 730, 0), (730, .iaload, 1, 731, 0), (731, .aload_n 0, 1, 732, 0), (732, .iload 4, 2, 734, 0), (734, .iconst 2, 1, 735, 0), (735, .iadd, 1, 736, 0), (736, .iaload, 1, 737, 0), (737, .i2l, 1, 738, 0), (738, .bipush 32, 2, 740, 0), (740, .lshl, 1, 741, 0), (741, .aload_n 0, 1, 742, 0), (742, .iload 4, 2, 744, 0), (744, .iconst 3, 1, 745, 0), (745, .iadd, 1, 746, 0), (746, .iaload, 1, 747, 0), (747, .i2l, 1, 748, 0)] = true := by decide +kernel
set_option maxRecDepth 20000 in
theorem k_L_law_11 : ckD cL_law [(748, .ldc2_w 100, 3, 751, 0), (751, .land, 1, 752, 0), (752, .lor, 1, 753, 0), (753, .aload_n 0, 1, 754, 0), (754, .iload 4, 2, 756, 0), (756, .iconst 4, 1, 757, 0), (757, .iadd, 1, 758, 0), (758, .iaload, 1, 759, 0), (759, .i2l, 1, 760, 0), (760, .bipush 32, 2, 762, 0), (762, .lshl, 1, 763, 0), (763, .aload_n 0, 1, 764, 0), (764, .iload 4, 2, 766, 0), (766, .iconst 5, 1, 767, 0), (767, .iadd, 1, 768, 0), (768, .iaload, 1, 769, 0), (769, .i2l, 1, 770, 0), (770, .ldc2_w 100, 3, 773, 0), (773, .land, 1, 774, 0), (774, .lor, 1, 775, 0), (775, .aload_n 0, 1, 776, 0), (776, .iload 4, 2, 778, 0), (778, .bipush 6, 2, 780, 0), (780, .iadd, 1, 781, 0), (781, .iaload, 1, 782, 0), (782, .invokevirtual 111, 3, 785, 0), (785, .aload_n 2, 1, 786, 0), (786, .aload_n 0, 1, 787, 0), (787, .iload 4, 2, 789, 0), (789, .iconst 1, 1, 790, 0), (790, .iadd, 1, 791, 0), (791, .iaload, 1, 792, 0), (792, .aload_n 0, 1, 793, 0), (793, .iload 4, 2, 795, 0), (795, .iconst 2, 1, 796, 0), (796, .iadd, 1, 797, 0), (797, .iaload, 1, 798, 0), (798, .i2l, 1, 799, 0), (799, .bipush 32, 2, 801, 0), (801, .lshl, 1, 802, 0)] = true := by decide +kernel
set_option maxRecDepth 20000 in
theorem k_L_law_12 : ckD cL_law [(802, .aload_n 0, 1, 803, 0), (803, .iload 4, 2, 805, 0), (805, .iconst 3, 1, 806, 0), (806, .iadd, 1, 807, 0), (807, .iaload, 1, 808, 0), (808, .i2l, 1, 809, 0), (809, .ldc2_w 100, 3, 812, 0), (812, .land, 1, 813, 0), (813, .lor, 1, 814, 0), (814, .aload_n 0, 1, 815, 0), (815, .iload 4, 2, 817, 0), (817, .iconst 4, 1, 818, 0), (818, .iadd, 1, 819, 0), (819, .iaload, 1, 820, 0), (820, .i2l, 1, 821, 0), (821, .bipush 32, 2, 823, 0), (823, .lshl, 1, 824, 0), (824, .aload_n 0, 1, 825, 0), (825, .iload 4, 2, 827, 0), (827, .iconst 5, 1, 828, 0), (828, .iadd, 1, 829, 0), (829, .iaload, 1, 830, 0), (830, .i2l, 1, 831, 0), (831, .ldc2_w 100, 3, 834, 0), (834, .land, 1, 835, 0), (835, .lor, 1, 836, 0), (836, .aload_n 0, 1, 837, 0), (837, .iload 4, 2, 839, 0), (839, .bipush 6, 2, 841, 0), (841, .iadd, 1, 842, 0), (842, .iaload, 1, 843, 0), (843, .invokevirtual 115, 3, 846, 0), (846, .if_icmp .eq 844, 3, 849, 1690), (849, .iconst 0, 1, 850, 0), (850, .ireturn, 1, 851, 0), (851, .aload_n 1, 1, 852, 0), (852, .aload_n 0, 1, 853, 0), (853, .iload 4, 2, 855, 0), (855, .iconst 1, 1, 856, 0), (856, .iadd, 1, 857, 0)] = true := by decide +kernel
set_option maxRecDepth 20000 in
theorem k_L_law_13 : ckD cL_law [(857, .iaload, 1, 858, 0), (858, .aload_n 3, 1, 859, 0), (859, .invokestatic 116, 3, 862, 0), (862, .istore 5, 2, 864, 0), (864, .aload_n 2, 1, 865, 0), (865, .aload_n 0, 1, 866, 0), (866, .iload 4, 2, 868, 0), (868, .iconst 1, 1, 869, 0), (869, .iadd, 1, 870, 0), (870, .iaload, 1, 871, 0), (871, .invokevirtual 119, 3, 874, 0), (874, .istore 6, 2, 876, 0), (876, .aload_n 2, 1, 877, 0), (877, .invokevirtual 86, 3, 880, 0), (880, .iload 5, 2, 882, 0), (882, .if_icmp .eq 5, 3, 885, 887), (885, .iconst 0, 1, 886, 0), (886, .ireturn, 1, 887, 0), (887, .iload 5, 2, 889, 0), (889, .ifCond .ne 15, 3, 892, 904), (892, .aload_n 3, 1, 893, 0), (893, .iconst 0, 1, 894, 0), (894, .laload, 1, 895, 0), (895, .iload 6, 2, 897, 0), (897, .i2l, 1, 898, 0), (898, .lcmp, 1, 899, 0), (899, .ifCond .eq 5, 3, 902, 904), (902, .iconst 0, 1, 903, 0), (903, .ireturn, 1, 904, 0), (904, .goto 786, 3, 907, 1690), (907, .aload_n 1, 1, 908, 0), (908, .aload_n 0, 1, 909, 0), (909, .iload 4, 2, 911, 0), (911, .iconst 1, 1, 912, 0), (912, .iadd, 1, 913, 0), (913, .iaload, 1, 914, 0), (914, .aload_n 0, 1, 915, 0), (915, .iload 4, 2, 917, 0), (917, .iconst 2, 1, 918, 0), (918, .iadd, 1, 919, 0)] = true := by decide +kernel
set_option maxRecDepth 20000 in
theorem k_L_law_14 : ckD cL_law [(919, .iaload, 1, 920, 0), (920, .aload_n 3, 1, 921, 0), (921, .invokestatic 120, 3, 924, 0), (924, .istore 5, 2, 926, 0), (926, .aload_n 2, 1, 927, 0), (927, .aload_n 0, 1, 928, 0), (928, .iload 4, 2, 930, 0), (930, .iconst 1, 1, 931, 0), (931, .iadd, 1, 932, 0), (932, .iaload, 1, 933, 0), (933, .aload_n 0, 1, 934, 0), (934, .iload 4, 2, 936, 0), (936, .iconst 2, 1, 937, 0), (937, .iadd, 1, 938, 0), (938, .iaload, 1, 939, 0), (939, .invokevirtual 122, 3, 942, 0), (942, .istore 6, 2, 944, 0), (944, .aload_n 2, 1, 945, 0), (945, .invokevirtual 86, 3, 948, 0), (948, .iload 5, 2, 950, 0), (950, .if_icmp .eq 5, 3, 953, 955), (953, .iconst 0, 1, 954, 0), (954, .ireturn, 1, 955, 0), (955, .iload 5, 2, 957, 0), (957, .ifCond .ne 15, 3, 960, 972), (960, .aload_n 3, 1, 961, 0), (961, .iconst 0, 1, 962, 0), (962, .laload, 1, 963, 0), (963, .iload 6, 2, 965, 0), (965, .i2l, 1, 966, 0), (966, .lcmp, 1, 967, 0), (967, .ifCond .eq 5, 3, 970, 972), (970, .iconst 0, 1, 971, 0), (971, .ireturn, 1, 972, 0), (972, .goto 718, 3, 975, 1690), (975, .aload_n 1, 1, 976, 0), (976, .aload_n 0, 1, 977, 0), (977, .iload 4, 2, 979, 0), (979, .iconst 1, 1, 980, 0), (980, .iadd, 1, 981, 0)] = true := by decide +kernel
set_option maxRecDepth 20000 in
theorem k_L_law_15 : ckD cL_law [(981, .iaload, 1, 982, 0), (982, .aload_n 3, 1, 983, 0), (983, .invokestatic 123, 3, 986, 0), (986, .istore 5, 2, 988, 0), (988, .aload_n 2, 1, 989, 0), (989, .aload_n 0, 1, 990, 0), (990, .iload 4, 2, 992, 0), (992, .iconst 1, 1, 993, 0), (993, .iadd, 1, 994, 0), (994, .iaload, 1, 995, 0), (995, .invokevirtual 125, 3, 998, 0), (998, .lstore 6, 2, 1000, 0), (1000, .aload_n 2, 1, 1001, 0), (1001, .invokevirtual 86, 3, 1004, 0), (1004, .iload 5, 2, 1006, 0), (1006, .if_icmp .eq 5, 3, 1009, 1011), (1009, .iconst 0, 1, 1010, 0), (1010, .ireturn, 1, 1011, 0), (1011, .iload 5, 2, 1013, 0), (1013, .ifCond .ne 14, 3, 1016, 1027), (1016, .aload_n 3, 1, 1017, 0), (1017, .iconst 0, 1, 1018, 0), (1018, .laload, 1, 1019, 0), (1019, .lload 6, 2, 1021, 0), (1021, .lcmp, 1, 1022, 0), (1022, .ifCond .eq 5, 3, 1025, 1027), (1025, .iconst 0, 1, 1026, 0), (1026, .ireturn, 1, 1027, 0), (1027, .goto 663, 3, 1030, 1690), (1030, .aload_n 1, 1, 1031, 0), (1031, .aload_n 0, 1, 1032, 0), (1032, .iload 4, 2, 1034, 0), (1034, .iconst 1, 1, 1035, 0), (1035, .iadd, 1, 1036, 0), (1036, .iaload, 1, 1037, 0), (1037, .aload_n 0, 1, 1038, 0), (1038, .iload 4, 2, 1040, 0), (1040, .iconst 2, 1, 1041, 0), (1041, .iadd, 1, 1042, 0), (1042, .iaload, 1, 1043, 0)] = true := by decide +kernel
set_option maxRecDepth 20000 in
theorem k_L_law_16 : ckD cL_law [(1043, .aload_n 3, 1, 1044, 0), (1044, .invokestatic 126, 3, 1047, 0), (1047, .istore 5, 2, 1049, 0), (1049, .aload_n 2, 1, 1050, 0), (1050, .aload_n 0, 1, 1051, 0), (1051, .iload 4, 2, 1053, 0), (1053, .iconst 1, 1, 1054, 0), (1054, .iadd, 1, 1055, 0), (1055, .iaload, 1, 1056, 0), (1056, .aload_n 0, 1, 1057, 0), (1057, .iload 4, 2, 1059, 0), (1059, .iconst 2, 1, 1060, 0), (1060, .iadd, 1, 1061, 0), (1061, .iaload, 1, 1062, 0), (1062, .invokevirtual 128, 3, 1065, 0), (1065, .istore 6, 2, 1067, 0), (1067, .aload_n 2, 1, 1068, 0), (1068, .invokevirtual 86, 3, 1071, 0), (1071, .iload 5, 2, 1073, 0), (1073, .if_icmp .eq 5, 3, 1076, 1078), (1076, .iconst 0, 1, 1077, 0), (1077, .ireturn, 1, 1078, 0), (1078, .iload 5, 2, 1080, 0), (1080, .ifCond .ne 15, 3, 1083, 1095), (1083, .aload_n 3, 1, 1084, 0), (1084, .iconst 0, 1, 1085, 0), (1085, .laload, 1, 1086, 0), (1086, .iload 6, 2, 1088, 0), (1088, .i2l, 1, 1089, 0), (1089, .lcmp, 1, 1090, 0), (1090, .ifCond .eq 5, 3, 1093, 1095), (1093, .iconst 0, 1, 1094, 0), (1094, .ireturn, 1, 1095, 0), (1095, .goto 595, 3, 1098, 1690), (1098, .aload_n 1, 1, 1099, 0), (1099, .aload_n 3, 1, 1100, 0), (1100, .invokestatic 129, 3, 1103, 0), (1103, .istore 5, 2, 1105, 0), (1105, .aload_n 2, 1, 1106, 0), (1106, .invokevirtual 132, 3, 1109, 0)] = true := by decide +kernel
set_option maxRecDepth 20000 in
theorem k_L_law_17 : ckD cL_law [(1109, .istore 6, 2, 1111, 0), (1111, .aload_n 2, 1, 1112, 0), (1112, .invokevirtual 86, 3, 1115, 0), (1115, .iload 5, 2, 1117, 0), (1117, .if_icmp .eq 5, 3, 1120, 1122), (1120, .iconst 0, 1, 1121, 0), (1121, .ireturn, 1, 1122, 0), (1122, .iload 5, 2, 1124, 0), (1124, .ifCond .ne 15, 3, 1127, 1139), (1127, .aload_n 3, 1, 1128, 0), (1128, .iconst 0, 1, 1129, 0), (1129, .laload, 1, 1130, 0), (1130, .iload 6, 2, 1132, 0), (1132, .i2l, 1, 1133, 0), (1133, .lcmp, 1, 1134, 0), (1134, .ifCond .eq 5, 3, 1137, 1139), (1137, .iconst 0, 1, 1138, 0), (1138, .ireturn, 1, 1139, 0), (1139, .goto 551, 3, 1142, 1690), (1142, .aload_n 1, 1, 1143, 0), (1143, .invokevirtual 133, 3, 1146, 0), (1146, .aload_n 2, 1, 1147, 0), (1147, .invokevirtual 136, 3, 1150, 0), (1150, .if_icmp .eq 540, 3, 1153, 1690), (1153, .iconst 0, 1, 1154, 0), (1154, .ireturn, 1, 1155, 0), (1155, .aload_n 1, 1, 1156, 0), (1156, .aload_n 3, 1, 1157, 0), (1157, .invokestatic 137, 3, 1160, 0), (1160, .istore 5, 2, 1162, 0), (1162, .aload_n 2, 1, 1163, 0), (1163, .invokevirtual 139, 3, 1166, 0), (1166, .istore 6, 2, 1168, 0), (1168, .aload_n 2, 1, 1169, 0), (1169, .invokevirtual 86, 3, 1172, 0), (1172, .iload 5, 2, 1174, 0), (1174, .if_icmp .eq 5, 3, 1177, 1179), (1177, .iconst 0, 1, 1178, 0), (1178, .ireturn, 1, 1179, 0), (1179, .iload 5, 2, 1181, 0)] = true := by decide +kernel
set_option maxRecDepth 20000 in
theorem k_L_law_18 : ckD cL_law [(1181, .ifCond .ne 22, 3, 1184, 1203), (1184, .aload_n 3, 1, 1185, 0), (1185, .iconst 0, 1, 1186, 0), (1186, .laload, 1, 1187, 0), (1187, .iload 6, 2, 1189, 0), (1189, .ifCond .eq 7, 3, 1192, 1196), (1192, .lconst 1, 1, 1193, 0), (1193, .goto 4, 3, 1196, 1197), (1196, .lconst 0, 1, 1197, 0), (1197, .lcmp, 1, 1198, 0), (1198, .ifCond .eq 5, 3, 1201, 1203), (1201, .iconst 0, 1, 1202, 0), (1202, .ireturn, 1, 1203, 0), (1203, .goto 487, 3, 1206, 1690), (1206, .aload_n 1, 1, 1207, 0), (1207, .aload_n 3, 1, 1208, 0), (1208, .invokestatic 140, 3, 1211, 0), (1211, .istore 5, 2, 1213, 0), (1213, .aload_n 2, 1, 1214, 0), (1214, .invokevirtual 142, 3, 1217, 0), (1217, .istore 6, 2, 1219, 0), (1219, .aload_n 2, 1, 1220, 0), (1220, .invokevirtual 86, 3, 1223, 0), (1223, .iload 5, 2, 1225, 0), (1225, .if_icmp .eq 5, 3, 1228, 1230), (1228, .iconst 0, 1, 1229, 0), (1229, .ireturn, 1, 1230, 0), (1230, .iload 5, 2, 1232, 0), (1232, .ifCond .ne 15, 3, 1235, 1247), (1235, .aload_n 3, 1, 1236, 0), (1236, .iconst 0, 1, 1237, 0), (1237, .laload, 1, 1238, 0), (1238, .iload 6, 2, 1240, 0), (1240, .i2l, 1, 1241, 0), (1241, .lcmp, 1, 1242, 0), (1242, .ifCond .eq 5, 3, 1245, 1247), (1245, .iconst 0, 1, 1246, 0), (1246, .ireturn, 1, 1247, 0), (1247, .goto 443, 3, 1250, 1690), (1250, .aload_n 1, 1, 1251, 0)] = true := by decide +kernel
set_option maxRecDepth 20000 in
theorem k_L_law_19 : ckD cL_law [(1251, .aload_n 3, 1, 1252, 0), (1252, .invokestatic 143, 3, 1255, 0), (1255, .istore 5, 2, 1257, 0), (1257, .aload_n 2, 1, 1258, 0), (1258, .invokevirtual 145, 3, 1261, 0), (1261, .istore 6, 2, 1263, 0), (1263, .aload_n 2, 1, 1264, 0), (1264, .invokevirtual 86, 3, 1267, 0), (1267, .iload 5, 2, 1269, 0), (1269, .if_icmp .eq 5, 3, 1272, 1274), (1272, .iconst 0, 1, 1273, 0), (1273, .ireturn, 1, 1274, 0), (1274, .iload 5, 2, 1276, 0), (1276, .ifCond .ne 15, 3, 1279, 1291), (1279, .aload_n 3, 1, 1280, 0), (1280, .iconst 0, 1, 1281, 0), (1281, .laload, 1, 1282, 0), (1282, .iload 6, 2, 1284, 0), (1284, .i2l, 1, 1285, 0), (1285, .lcmp, 1, 1286, 0), (1286, .ifCond .eq 5, 3, 1289, 1291), (1289, .iconst 0, 1, 1290, 0), (1290, .ireturn, 1, 1291, 0), (1291, .goto 399, 3, 1294, 1690), (1294, .aload_n 1, 1, 1295, 0), (1295, .aload_n 0, 1, 1296, 0), (1296, .iload 4, 2, 1298, 0), (1298, .iconst 1, 1, 1299, 0), (1299, .iadd, 1, 1300, 0), (1300, .iaload, 1, 1301, 0), (1301, .aload_n 0, 1, 1302, 0), (1302, .iload 4, 2, 1304, 0), (1304, .iconst 2, 1, 1305, 0), (1305, .iadd, 1, 1306, 0), (1306, .iaload, 1, 1307, 0), (1307, .aload_n 3, 1, 1308, 0), (1308, .invokestatic 146, 3, 1311, 0), (1311, .istore 5, 2, 1313, 0), (1313, .aload_n 2, 1, 1314, 0), (1314, .aload_n 0, 1, 1315, 0)] = true := by decide +kernel
set_option maxRecDepth 20000 in
theorem k_L_law_20 : ckD cL_law [(1315, .iload 4, 2, 1317, 0), (1317, .iconst 1, 1, 1318, 0), (1318, .iadd, 1, 1319, 0), (1319, .iaload, 1, 1320, 0), (1320, .aload_n 0, 1, 1321, 0), (1321, .iload 4, 2, 1323, 0), (1323, .iconst 2, 1, 1324, 0), (1324, .iadd, 1, 1325, 0), (1325, .iaload, 1, 1326, 0), (1326, .invokevirtual 148, 3, 1329, 0), (1329, .istore 6, 2, 1331, 0), (1331, .aload_n 2, 1, 1332, 0), (1332, .invokevirtual 86, 3, 1335, 0), (1335, .iload 5, 2, 1337, 0), (1337, .if_icmp .eq 5, 3, 1340, 1342), (1340, .iconst 0, 1, 1341, 0), (1341, .ireturn, 1, 1342, 0), (1342, .iload 5, 2, 1344, 0), (1344, .ifCond .ne 15, 3, 1347, 1359), (1347, .aload_n 3, 1, 1348, 0), (1348, .iconst 0, 1, 1349, 0), (1349, .laload, 1, 1350, 0), (1350, .iload 6, 2, 1352, 0), (1352, .i2l, 1, 1353, 0), (1353, .lcmp, 1, 1354, 0), (1354, .ifCond .eq 5, 3, 1357, 1359), (1357, .iconst 0, 1, 1358, 0), (1358, .ireturn, 1, 1359, 0), (1359, .goto 331, 3, 1362, 1690), (1362, .aload_n 1, 1, 1363, 0), (1363, .aload_n 0, 1, 1364, 0), (1364, .iload 4, 2, 1366, 0), (1366, .iconst 1, 1, 1367, 0), (1367, .iadd, 1, 1368, 0), (1368, .iaload, 1, 1369, 0), (1369, .aload_n 3, 1, 1370, 0), (1370, .invokestatic 149, 3, 1373, 0), (1373, .istore 5, 2, 1375, 0), (1375, .aload_n 2, 1, 1376, 0), (1376, .aload_n 0, 1, 1377, 0)] = true := by decide +kernel
set_option maxRecDepth 20000 in
theorem k_L_law_21 : ckD cL_law [(1377, .iload 4, 2, 1379, 0), (1379, .iconst 1, 1, 1380, 0), (1380, .iadd, 1, 1381, 0), (1381, .iaload, 1, 1382, 0), (1382, .invokevirtual 151, 3, 1385, 0), (1385, .istore 6, 2, 1387, 0), (1387, .aload_n 2, 1, 1388, 0), (1388, .invokevirtual 86, 3, 1391, 0), (1391, .iload 5, 2, 1393, 0), (1393, .if_icmp .eq 5, 3, 1396, 1398), (1396, .iconst 0, 1, 1397, 0), (1397, .ireturn, 1, 1398, 0), (1398, .iload 5, 2, 1400, 0), (1400, .ifCond .ne 15, 3, 1403, 1415), (1403, .aload_n 3, 1, 1404, 0), (1404, .iconst 0, 1, 1405, 0), (1405, .laload, 1, 1406, 0), (1406, .iload 6, 2, 1408, 0), (1408, .i2l, 1, 1409, 0), (1409, .lcmp, 1, 1410, 0), (1410, .ifCond .eq 5, 3, 1413, 1415), (1413, .iconst 0, 1, 1414, 0), (1414, .ireturn, 1, 1415, 0), (1415, .goto 275, 3, 1418, 1690), (1418, .aload_n 1, 1, 1419, 0), (1419, .aload_n 0, 1, 1420, 0), (1420, .iload 4, 2, 1422, 0), (1422, .iconst 1, 1, 1423, 0), (1423, .iadd, 1, 1424, 0), (1424, .iaload, 1, 1425, 0), (1425, .aload_n 0, 1, 1426, 0), (1426, .iload 4, 2, 1428, 0), (1428, .iconst 2, 1, 1429, 0), (1429, .iadd, 1, 1430, 0), (1430, .iaload, 1, 1431, 0), (1431, .aload_n 0, 1, 1432, 0), (1432, .iload 4, 2, 1434, 0), (1434, .iconst 3, 1, 1435, 0), (1435, .iadd, 1, 1436, 0), (1436, .iaload, 1, 1437, 0)] = true := by decide +kernel
set_option maxRecDepth 20000 in
theorem k_L_law_22 : ckD cL_law [(1437, .invokevirtual 152, 3, 1440, 0), (1440, .aload_n 2, 1, 1441, 0), (1441, .aload_n 0, 1, 1442, 0), (1442, .iload 4, 2, 1444, 0), (1444, .iconst 1, 1, 1445, 0), (1445, .iadd, 1, 1446, 0), (1446, .iaload, 1, 1447, 0), (1447, .aload_n 0, 1, 1448, 0), (1448, .iload 4, 2, 1450, 0), (1450, .iconst 2, 1, 1451, 0), (1451, .iadd, 1, 1452, 0), (1452, .iaload, 1, 1453, 0), (1453, .aload_n 0, 1, 1454, 0), (1454, .iload 4, 2, 1456, 0), (1456, .iconst 3, 1, 1457, 0), (1457, .iadd, 1, 1458, 0), (1458, .iaload, 1, 1459, 0), (1459, .invokevirtual 156, 3, 1462, 0), (1462, .if_icmp .eq 228, 3, 1465, 1690), (1465, .iconst 0, 1, 1466, 0), (1466, .ireturn, 1, 1467, 0), (1467, .aload_n 1, 1, 1468, 0), (1468, .aload_n 0, 1, 1469, 0), (1469, .iload 4, 2, 1471, 0), (1471, .iconst 1, 1, 1472, 0), (1472, .iadd, 1, 1473, 0), (1473, .iaload, 1, 1474, 0), (1474, .aload_n 3, 1, 1475, 0), (1475, .invokestatic 157, 3, 1478, 0), (1478, .istore 5, 2, 1480, 0), (1480, .aload_n 2, 1, 1481, 0), (1481, .aload_n 0, 1, 1482, 0), (1482, .iload 4, 2, 1484, 0), (1484, .iconst 1, 1, 1485, 0), (1485, .iadd, 1, 1486, 0), (1486, .iaload, 1, 1487, 0), (1487, .invokevirtual 159, 3, 1490, 0), (1490, .istore 6, 2, 1492, 0), (1492, .aload_n 2, 1, 1493, 0), (1493, .invokevirtual 86, 3, 1496, 0)] = true := by decide +kernel
set_option maxRecDepth 20000 in
theorem k_L_law_23 : ckD cL_law [(1496, .iload 5, 2, 1498, 0), (1498, .if_icmp .eq 5, 3, 1501, 1503), (1501, .iconst 0, 1, 1502, 0), (1502, .ireturn, 1, 1503, 0), (1503, .iload 5, 2, 1505, 0), (1505, .ifCond .ne 15, 3, 1508, 1520), (1508, .aload_n 3, 1, 1509, 0), (1509, .iconst 0, 1, 1510, 0), (1510, .laload, 1, 1511, 0), (1511, .iload 6, 2, 1513, 0), (1513, .i2l, 1, 1514, 0), (1514, .lcmp, 1, 1515, 0), (1515, .ifCond .eq 5, 3, 1518, 1520), (1518, .iconst 0, 1, 1519, 0), (1519, .ireturn, 1, 1520, 0), (1520, .goto 170, 3, 1523, 1690), (1523, .aload_n 1, 1, 1524, 0), (1524, .aload_n 0, 1, 1525, 0), (1525, .iload 4, 2, 1527, 0), (1527, .iconst 1, 1, 1528, 0), (1528, .iadd, 1, 1529, 0), (1529, .iaload, 1, 1530, 0), (1530, .aload_n 0, 1, 1531, 0), (1531, .iload 4, 2, 1533, 0), (1533, .iconst 2, 1, 1534, 0), (1534, .iadd, 1, 1535, 0), (1535, .iaload, 1, 1536, 0), (1536, .aload_n 3, 1, 1537, 0), (1537, .invokestatic 160, 3, 1540, 0), (1540, .istore 5, 2, 1542, 0), (1542, .aload_n 2, 1, 1543, 0), (1543, .aload_n 0, 1, 1544, 0), (1544, .iload 4, 2, 1546, 0), (1546, .iconst 1, 1, 1547, 0), (1547, .iadd, 1, 1548, 0), (1548, .iaload, 1, 1549, 0), (1549, .aload_n 0, 1, 1550, 0), (1550, .iload 4, 2, 1552, 0), (1552, .iconst 2, 1, 1553, 0), (1553, .iadd, 1, 1554, 0)] = true := by decide +kernel
set_option maxRecDepth 20000 in
theorem k_L_law_24 : ckD cL_law [(1554, .iaload, 1, 1555, 0), (1555, .invokevirtual 162, 3, 1558, 0), (1558, .lstore 6, 2, 1560, 0), (1560, .aload_n 2, 1, 1561, 0), (1561, .invokevirtual 86, 3, 1564, 0), (1564, .iload 5, 2, 1566, 0), (1566, .if_icmp .eq 5, 3, 1569, 1571), (1569, .iconst 0, 1, 1570, 0), (1570, .ireturn, 1, 1571, 0), (1571, .iload 5, 2, 1573, 0), (1573, .ifCond .ne 14, 3, 1576, 1587), (1576, .aload_n 3, 1, 1577, 0), (1577, .iconst 0, 1, 1578, 0), (1578, .laload, 1, 1579, 0), (1579, .lload 6, 2, 1581, 0), (1581, .lcmp, 1, 1582, 0), (1582, .ifCond .eq 5, 3, 1585, 1587), (1585, .iconst 0, 1, 1586, 0), (1586, .ireturn, 1, 1587, 0), (1587, .goto 103, 3, 1590, 1690), (1590, .aload_n 1, 1, 1591, 0), (1591, .aload_n 3, 1, 1592, 0), (1592, .invokestatic 163, 3, 1595, 0), (1595, .istore 5, 2, 1597, 0), (1597, .aload_n 2, 1, 1598, 0), (1598, .invokevirtual 165, 3, 1601, 0), (1601, .lstore 6, 2, 1603, 0), (1603, .aload_n 2, 1, 1604, 0), (1604, .invokevirtual 86, 3, 1607, 0), (1607, .iload 5, 2, 1609, 0), (1609, .if_icmp .eq 5, 3, 1612, 1614), (1612, .iconst 0, 1, 1613, 0), (1613, .ireturn, 1, 1614, 0), (1614, .iload 5, 2, 1616, 0), (1616, .ifCond .ne 14, 3, 1619, 1630), (1619, .aload_n 3, 1, 1620, 0), (1620, .iconst 0, 1, 1621, 0), (1621, .laload, 1, 1622, 0), (1622, .lload 6, 2, 1624, 0), (1624, .lcmp, 1, 1625, 0)] = true := by decide +kernel
set_option maxRecDepth 20000 in
theorem k_L_law_25 : ckD cL_law [(1625, .ifCond .eq 5, 3, 1628, 1630), (1628, .iconst 0, 1, 1629, 0), (1629, .ireturn, 1, 1630, 0), (1630, .goto 60, 3, 1633, 1690), (1633, .aload_n 1, 1, 1634, 0), (1634, .aload_n 0, 1, 1635, 0), (1635, .iload 4, 2, 1637, 0), (1637, .iconst 1, 1, 1638, 0), (1638, .iadd, 1, 1639, 0), (1639, .iaload, 1, 1640, 0), (1640, .i2l, 1, 1641, 0), (1641, .bipush 32, 2, 1643, 0), (1643, .lshl, 1, 1644, 0), (1644, .aload_n 0, 1, 1645, 0), (1645, .iload 4, 2, 1647, 0), (1647, .iconst 2, 1, 1648, 0), (1648, .iadd, 1, 1649, 0), (1649, .iaload, 1, 1650, 0), (1650, .i2l, 1, 1651, 0), (1651, .ldc2_w 100, 3, 1654, 0), (1654, .land, 1, 1655, 0), (1655, .lor, 1, 1656, 0), (1656, .invokevirtual 166, 3, 1659, 0), (1659, .aload_n 2, 1, 1660, 0), (1660, .aload_n 0, 1, 1661, 0), (1661, .iload 4, 2, 1663, 0), (1663, .iconst 1, 1, 1664, 0), (1664, .iadd, 1, 1665, 0), (1665, .iaload, 1, 1666, 0), (1666, .i2l, 1, 1667, 0), (1667, .bipush 32, 2, 1669, 0), (1669, .lshl, 1, 1670, 0), (1670, .aload_n 0, 1, 1671, 0), (1671, .iload 4, 2, 1673, 0), (1673, .iconst 2, 1, 1674, 0), (1674, .iadd, 1, 1675, 0), (1675, .iaload, 1, 1676, 0), (1676, .i2l, 1, 1677, 0), (1677, .ldc2_w 100, 3, 1680, 0), (1680, .land, 1, 1681, 0)] = true := by decide +kernel
set_option maxRecDepth 20000 in
theorem k_L_law_26 : ckD cL_law [(1681, .lor, 1, 1682, 0), (1682, .invokevirtual 170, 3, 1685, 0), (1685, .if_icmp .eq 5, 3, 1688, 1690), (1688, .iconst 0, 1, 1689, 0), (1689, .ireturn, 1, 1690, 0), (1690, .iinc 4 7, 3, 1693, 0), (1693, .goto (-1670), 3, 1696, 23), (1696, .iconst 1, 1, 1697, 0), (1697, .ireturn, 1, 1698, 0)] = true := by decide +kernel
def f_law_J1690 (i : Int32) (M_4 : Mm) : Option (Option (Int32 × Mm)) := lt1 (i + 7) fun x4_5 => some (some (x4_5, M_4))
def f_law_J213 (i : Int32) (M_16 : Mm) (r_17 : Int32) (v_18 : Int32) (v_20 : Int32) (s_24 : Int32) : Option (Option (Int32 × Mm)) := bd2 (f_X10_block v_18 v_20 s_24 M_16) fun r_27 M_26 => if r_17 = r_27 then f_law_J1690 i M_26 else none
def f_law_J183 (xs : Nat → Int32) (L : Nat) (M : Mm) (i : Int32) (v_8 : Int32) (v_10 : Int32) (s_14 : Int32) : Option (Option (Int32 × Mm)) := bd2 (f_X9_block v_8 v_10 s_14 M) fun r_17 M_16 => rdX L xs (i + (1 : Int32)) fun v_18 => rdX L xs (i + (2 : Int32)) fun v_20 => rdX L xs (i + (3 : Int32)) fun v_22 => if v_22 = 0 then f_law_J213 i M_16 r_17 v_18 v_20 (0 : Int32) else f_law_J213 i M_16 r_17 v_18 v_20 (1 : Int32)
def f_law_J299 (i : Int32) (M_52 : Mm) (_ : Unit) : Option (Option (Int32 × Mm)) := f_law_J1690 i M_52
def f_law_J367 (i : Int32) (M_72 : Mm) (_ : Unit) : Option (Option (Int32 × Mm)) := f_law_J1690 i M_72
def f_law_J495 (i : Int32) (M_110 : Mm) (_ : Unit) : Option (Option (Int32 × Mm)) := f_law_J1690 i M_110
def f_law_J489 (i : Int32) (M_110 : Mm) (v_114 : Int64) (s_116 : Int64) : Option (Option (Int32 × Mm)) := if (lg_cmp v_114 s_116) = 0 then f_law_J495 i M_110 () else none
def f_law_J455 (i : Int32) (r_97 : Int32) (M_98 : Mm) (v_100 : Int32) (v_102 : Int32) (v_104 : Int32) (s_108 : Int32) : Option (Option (Int32 × Mm)) := bd2 (f_X10_put v_100 v_102 v_104 s_108 M_98) fun r_111 M_110 => if (f_X10_thrown M_110) = r_97 then (if r_97 = 0 then rdL 1 M_110 105 (0 : Int32) fun v_114 => if r_111 = 0 then f_law_J489 i M_110 v_114 (0 : Int64) else f_law_J489 i M_110 v_114 (1 : Int64) else f_law_J495 i M_110 ()) else none
def f_law_J416 (xs : Nat → Int32) (L : Nat) (M : Mm) (i : Int32) (v_88 : Int32) (v_90 : Int32) (v_92 : Int32) (s_96 : Int32) : Option (Option (Int32 × Mm)) := bd2 (f_L_put v_88 v_90 v_92 s_96 M) fun r_97 M_98 => rdX L xs (i + (1 : Int32)) fun v_100 => rdX L xs (i + (2 : Int32)) fun v_102 => rdX L xs (i + (3 : Int32)) fun v_104 => rdX L xs (i + (4 : Int32)) fun v_106 => if v_106 = 0 then f_law_J455 i r_97 M_98 v_100 v_102 v_104 (0 : Int32) else f_law_J455 i r_97 M_98 v_100 v_102 v_104 (1 : Int32)
def f_law_J904 (i : Int32) (M_218 : Mm) (_ : Unit) : Option (Option (Int32 × Mm)) := f_law_J1690 i M_218
def f_law_J972 (i : Int32) (M_238 : Mm) (_ : Unit) : Option (Option (Int32 × Mm)) := f_law_J1690 i M_238
def f_law_J1027 (i : Int32) (M_254 : Mm) (_ : Unit) : Option (Option (Int32 × Mm)) := f_law_J1690 i M_254
def f_law_J1095 (i : Int32) (M_274 : Mm) (_ : Unit) : Option (Option (Int32 × Mm)) := f_law_J1690 i M_274
def f_law_J1139 (i : Int32) (M_286 : Mm) (_ : Unit) : Option (Option (Int32 × Mm)) := f_law_J1690 i M_286
def f_law_J1203 (i : Int32) (M_306 : Mm) (_ : Unit) : Option (Option (Int32 × Mm)) := f_law_J1690 i M_306
def f_law_J1197 (i : Int32) (M_306 : Mm) (v_310 : Int64) (s_312 : Int64) : Option (Option (Int32 × Mm)) := if (lg_cmp v_310 s_312) = 0 then f_law_J1203 i M_306 () else none
def f_law_J1247 (i : Int32) (M_320 : Mm) (_ : Unit) : Option (Option (Int32 × Mm)) := f_law_J1690 i M_320
def f_law_J1291 (i : Int32) (M_332 : Mm) (_ : Unit) : Option (Option (Int32 × Mm)) := f_law_J1690 i M_332
def f_law_J1359 (i : Int32) (M_352 : Mm) (_ : Unit) : Option (Option (Int32 × Mm)) := f_law_J1690 i M_352
def f_law_J1415 (i : Int32) (M_368 : Mm) (_ : Unit) : Option (Option (Int32 × Mm)) := f_law_J1690 i M_368
def f_law_J1520 (i : Int32) (M_404 : Mm) (_ : Unit) : Option (Option (Int32 × Mm)) := f_law_J1690 i M_404
def f_law_J1587 (i : Int32) (M_424 : Mm) (_ : Unit) : Option (Option (Int32 × Mm)) := f_law_J1690 i M_424
def f_law_J1630 (i : Int32) (M_436 : Mm) (_ : Unit) : Option (Option (Int32 × Mm)) := f_law_J1690 i M_436
def f_turn (xs : Nat → Int32) (L : Nat) (i : Int32) (M : Mm) : Option (Option (Int32 × Mm)) := if ((Int32.ofNat L) - (7 : Int32)) < i then some none else rdX L xs i fun v_2 => lt1 (v_2 &&& (31 : Int32)) fun sw_6 => if sw_6 = (0 : Int32) then (rdX L xs (i + (1 : Int32)) fun v_8 => rdX L xs (i + (2 : Int32)) fun v_10 => rdX L xs (i + (3 : Int32)) fun v_12 => if v_12 = 0 then f_law_J183 xs L M i v_8 v_10 (0 : Int32) else f_law_J183 xs L M i v_8 v_10 (1 : Int32)) else if sw_6 = (1 : Int32) then (bd2 (f_X9_less M) fun r_34 M_33 => bd2 (f_X10_less M_33) fun r_37 M_36 => if r_34 = r_37 then f_law_J1690 i M_36 else none) else if sw_6 = (2 : Int32) then (rdX L xs (i + (1 : Int32)) fun v_40 => rdX L xs (i + (2 : Int32)) fun v_42 => bd2 (f_L_side v_40 v_42 M) fun r_44 M_45 => rdX L xs (i + (1 : Int32)) fun v_47 => rdX L xs (i + (2 : Int32)) fun v_49 => bd2 (f_X10_side v_47 v_49 M_45) fun r_53 M_52 => if (f_X10_thrown M_52) = r_44 then (if r_44 = 0 then rdL 1 M_52 105 (0 : Int32) fun v_56 => if (lg_cmp v_56 ((r_53).toInt64)) = 0 then f_law_J299 i M_52 () else none else f_law_J299 i M_52 ()) else none) else if sw_6 = (3 : Int32) then (rdX L xs (i + (1 : Int32)) fun v_60 => rdX L xs (i + (2 : Int32)) fun v_62 => bd2 (f_L_net v_60 v_62 M) fun r_64 M_65 => rdX L xs (i + (1 : Int32)) fun v_67 => rdX L xs (i + (2 : Int32)) fun v_69 => bd2 (f_X10_net v_67 v_69 M_65) fun r_73 M_72 => if (f_X10_thrown M_72) = r_64 then (if r_64 = 0 then rdL 1 M_72 105 (0 : Int32) fun v_76 => if (lg_cmp v_76 ((r_73).toInt64)) = 0 then f_law_J367 i M_72 () else none else f_law_J367 i M_72 ()) else none) else if sw_6 = (4 : Int32) then (bd2 (f_X9_places M) fun r_82 M_81 => bd2 (f_X10_places M_81) fun r_85 M_84 => if r_82 = r_85 then f_law_J1690 i M_84 else none) else if sw_6 = (5 : Int32) then (rdX L xs (i + (1 : Int32)) fun v_88 => rdX L xs (i + (2 : Int32)) fun v_90 => rdX L xs (i + (3 : Int32)) fun v_92 => rdX L xs (i + (4 : Int32)) fun v_94 => if v_94 = 0 then f_law_J416 xs L M i v_88 v_90 v_92 (0 : Int32) else f_law_J416 xs L M i v_88 v_90 v_92 (1 : Int32)) else if sw_6 = (6 : Int32) then (rdX L xs (i + (1 : Int32)) fun v_122 => rdX L xs (i + (2 : Int32)) fun v_124 => rdX L xs (i + (3 : Int32)) fun v_126 => rdX L xs (i + (4 : Int32)) fun v_128 => rdX L xs (i + (5 : Int32)) fun v_130 => bd2 (f_X9_pair ((((v_122).toInt64) <<< (((32 : Int32)).toInt64 &&& 63)) ||| (((v_124).toInt64) &&& (4294967295 : Int64))) ((((v_126).toInt64) <<< (((32 : Int32)).toInt64 &&& 63)) ||| (((v_128).toInt64) &&& (4294967295 : Int64))) v_130 M) fun r_134 M_133 => rdX L xs (i + (1 : Int32)) fun v_135 => rdX L xs (i + (2 : Int32)) fun v_137 => rdX L xs (i + (3 : Int32)) fun v_139 => rdX L xs (i + (4 : Int32)) fun v_141 => rdX L xs (i + (5 : Int32)) fun v_143 => bd2 (f_X10_pair ((((v_135).toInt64) <<< (((32 : Int32)).toInt64 &&& 63)) ||| (((v_137).toInt64) &&& (4294967295 : Int64))) ((((v_139).toInt64) <<< (((32 : Int32)).toInt64 &&& 63)) ||| (((v_141).toInt64) &&& (4294967295 : Int64))) v_143 M_133) fun r_147 M_146 => if r_134 = r_147 then f_law_J1690 i M_146 else none) else if sw_6 = (7 : Int32) then (rdX L xs (i + (1 : Int32)) fun v_150 => rdX L xs (i + (2 : Int32)) fun v_152 => rdX L xs (i + (3 : Int32)) fun v_154 => rdX L xs (i + (4 : Int32)) fun v_156 => rdX L xs (i + (5 : Int32)) fun v_158 => bd2 (f_X9_cuts ((((v_150).toInt64) <<< (((32 : Int32)).toInt64 &&& 63)) ||| (((v_152).toInt64) &&& (4294967295 : Int64))) ((((v_154).toInt64) <<< (((32 : Int32)).toInt64 &&& 63)) ||| (((v_156).toInt64) &&& (4294967295 : Int64))) v_158 M) fun r_162 M_161 => rdX L xs (i + (1 : Int32)) fun v_163 => rdX L xs (i + (2 : Int32)) fun v_165 => rdX L xs (i + (3 : Int32)) fun v_167 => rdX L xs (i + (4 : Int32)) fun v_169 => rdX L xs (i + (5 : Int32)) fun v_171 => bd2 (f_X10_cuts ((((v_163).toInt64) <<< (((32 : Int32)).toInt64 &&& 63)) ||| (((v_165).toInt64) &&& (4294967295 : Int64))) ((((v_167).toInt64) <<< (((32 : Int32)).toInt64 &&& 63)) ||| (((v_169).toInt64) &&& (4294967295 : Int64))) v_171 M_161) fun r_175 M_174 => if r_162 = r_175 then f_law_J1690 i M_174 else none) else if sw_6 = (8 : Int32) then (rdX L xs (i + (1 : Int32)) fun v_178 => rdX L xs (i + (2 : Int32)) fun v_180 => rdX L xs (i + (3 : Int32)) fun v_182 => rdX L xs (i + (4 : Int32)) fun v_184 => rdX L xs (i + (5 : Int32)) fun v_186 => rdX L xs (i + (6 : Int32)) fun v_188 => bd2 (f_X9_tree v_178 ((((v_180).toInt64) <<< (((32 : Int32)).toInt64 &&& 63)) ||| (((v_182).toInt64) &&& (4294967295 : Int64))) ((((v_184).toInt64) <<< (((32 : Int32)).toInt64 &&& 63)) ||| (((v_186).toInt64) &&& (4294967295 : Int64))) v_188 M) fun r_192 M_191 => rdX L xs (i + (1 : Int32)) fun v_193 => rdX L xs (i + (2 : Int32)) fun v_195 => rdX L xs (i + (3 : Int32)) fun v_197 => rdX L xs (i + (4 : Int32)) fun v_199 => rdX L xs (i + (5 : Int32)) fun v_201 => rdX L xs (i + (6 : Int32)) fun v_203 => bd2 (f_X10_tree v_193 ((((v_195).toInt64) <<< (((32 : Int32)).toInt64 &&& 63)) ||| (((v_197).toInt64) &&& (4294967295 : Int64))) ((((v_199).toInt64) <<< (((32 : Int32)).toInt64 &&& 63)) ||| (((v_201).toInt64) &&& (4294967295 : Int64))) v_203 M_191) fun r_207 M_206 => if r_192 = r_207 then f_law_J1690 i M_206 else none) else if sw_6 = (9 : Int32) then (rdX L xs (i + (1 : Int32)) fun v_210 => bd2 (f_L_about v_210 M) fun r_212 M_213 => rdX L xs (i + (1 : Int32)) fun v_215 => bd2 (f_X10_about v_215 M_213) fun r_219 M_218 => if (f_X10_thrown M_218) = r_212 then (if r_212 = 0 then rdL 1 M_218 105 (0 : Int32) fun v_222 => if (lg_cmp v_222 ((r_219).toInt64)) = 0 then f_law_J904 i M_218 () else none else f_law_J904 i M_218 ()) else none) else if sw_6 = (10 : Int32) then (rdX L xs (i + (1 : Int32)) fun v_226 => rdX L xs (i + (2 : Int32)) fun v_228 => bd2 (f_L_at v_226 v_228 M) fun r_230 M_231 => rdX L xs (i + (1 : Int32)) fun v_233 => rdX L xs (i + (2 : Int32)) fun v_235 => bd2 (f_X10_at v_233 v_235 M_231) fun r_239 M_238 => if (f_X10_thrown M_238) = r_230 then (if r_230 = 0 then rdL 1 M_238 105 (0 : Int32) fun v_242 => if (lg_cmp v_242 ((r_239).toInt64)) = 0 then f_law_J972 i M_238 () else none else f_law_J972 i M_238 ()) else none) else if sw_6 = (11 : Int32) then (rdX L xs (i + (1 : Int32)) fun v_246 => bd2 (f_L_told v_246 M) fun r_248 M_249 => rdX L xs (i + (1 : Int32)) fun v_251 => bd2 (f_X10_told v_251 M_249) fun r_255 M_254 => if (f_X10_thrown M_254) = r_248 then (if r_248 = 0 then rdL 1 M_254 105 (0 : Int32) fun v_258 => if (lg_cmp v_258 r_255) = 0 then f_law_J1027 i M_254 () else none else f_law_J1027 i M_254 ()) else none) else if sw_6 = (12 : Int32) then (rdX L xs (i + (1 : Int32)) fun v_262 => rdX L xs (i + (2 : Int32)) fun v_264 => bd2 (f_L_slack v_262 v_264 M) fun r_266 M_267 => rdX L xs (i + (1 : Int32)) fun v_269 => rdX L xs (i + (2 : Int32)) fun v_271 => bd2 (f_X10_slack v_269 v_271 M_267) fun r_275 M_274 => if (f_X10_thrown M_274) = r_266 then (if r_266 = 0 then rdL 1 M_274 105 (0 : Int32) fun v_278 => if (lg_cmp v_278 ((r_275).toInt64)) = 0 then f_law_J1095 i M_274 () else none else f_law_J1095 i M_274 ()) else none) else if sw_6 = (13 : Int32) then (bd2 (f_L_wires M) fun r_282 M_283 => bd2 (f_X10_wires M_283) fun r_287 M_286 => if (f_X10_thrown M_286) = r_282 then (if r_282 = 0 then rdL 1 M_286 105 (0 : Int32) fun v_290 => if (lg_cmp v_290 ((r_287).toInt64)) = 0 then f_law_J1139 i M_286 () else none else f_law_J1139 i M_286 ()) else none) else if sw_6 = (14 : Int32) then (bd2 (f_X9_from M) fun r_296 M_295 => bd2 (f_X10_from M_295) fun r_299 M_298 => if r_296 = r_299 then f_law_J1690 i M_298 else none) else if sw_6 = (15 : Int32) then (bd2 (f_L_isCut M) fun r_302 M_303 => bd2 (f_X10_isCut M_303) fun r_307 M_306 => if (f_X10_thrown M_306) = r_302 then (if r_302 = 0 then rdL 1 M_306 105 (0 : Int32) fun v_310 => if r_307 = 0 then f_law_J1197 i M_306 v_310 (0 : Int64) else f_law_J1197 i M_306 v_310 (1 : Int64) else f_law_J1203 i M_306 ()) else none) else if sw_6 = (16 : Int32) then (bd2 (f_L_normal M) fun r_316 M_317 => bd2 (f_X10_normal M_317) fun r_321 M_320 => if (f_X10_thrown M_320) = r_316 then (if r_316 = 0 then rdL 1 M_320 105 (0 : Int32) fun v_324 => if (lg_cmp v_324 ((r_321).toInt64)) = 0 then f_law_J1247 i M_320 () else none else f_law_J1247 i M_320 ()) else none) else if sw_6 = (17 : Int32) then (bd2 (f_L_curve M) fun r_328 M_329 => bd2 (f_X10_curve M_329) fun r_333 M_332 => if (f_X10_thrown M_332) = r_328 then (if r_328 = 0 then rdL 1 M_332 105 (0 : Int32) fun v_336 => if (lg_cmp v_336 ((r_333).toInt64)) = 0 then f_law_J1291 i M_332 () else none else f_law_J1291 i M_332 ()) else none) else if sw_6 = (18 : Int32) then (rdX L xs (i + (1 : Int32)) fun v_340 => rdX L xs (i + (2 : Int32)) fun v_342 => bd2 (f_L_shape v_340 v_342 M) fun r_344 M_345 => rdX L xs (i + (1 : Int32)) fun v_347 => rdX L xs (i + (2 : Int32)) fun v_349 => bd2 (f_X10_shape v_347 v_349 M_345) fun r_353 M_352 => if (f_X10_thrown M_352) = r_344 then (if r_344 = 0 then rdL 1 M_352 105 (0 : Int32) fun v_356 => if (lg_cmp v_356 ((r_353).toInt64)) = 0 then f_law_J1359 i M_352 () else none else f_law_J1359 i M_352 ()) else none) else if sw_6 = (19 : Int32) then (rdX L xs (i + (1 : Int32)) fun v_360 => bd2 (f_L_best v_360 M) fun r_362 M_363 => rdX L xs (i + (1 : Int32)) fun v_365 => bd2 (f_X10_best v_365 M_363) fun r_369 M_368 => if (f_X10_thrown M_368) = r_362 then (if r_362 = 0 then rdL 1 M_368 105 (0 : Int32) fun v_372 => if (lg_cmp v_372 ((r_369).toInt64)) = 0 then f_law_J1415 i M_368 () else none else f_law_J1415 i M_368 ()) else none) else if sw_6 = (20 : Int32) then (rdX L xs (i + (1 : Int32)) fun v_376 => rdX L xs (i + (2 : Int32)) fun v_378 => rdX L xs (i + (3 : Int32)) fun v_380 => bd2 (f_X9_swap v_376 v_378 v_380 M) fun r_384 M_383 => rdX L xs (i + (1 : Int32)) fun v_385 => rdX L xs (i + (2 : Int32)) fun v_387 => rdX L xs (i + (3 : Int32)) fun v_389 => bd2 (f_X10_swap v_385 v_387 v_389 M_383) fun r_393 M_392 => if r_384 = r_393 then f_law_J1690 i M_392 else none) else if sw_6 = (21 : Int32) then (rdX L xs (i + (1 : Int32)) fun v_396 => bd2 (f_L_least v_396 M) fun r_398 M_399 => rdX L xs (i + (1 : Int32)) fun v_401 => bd2 (f_X10_least v_401 M_399) fun r_405 M_404 => if (f_X10_thrown M_404) = r_398 then (if r_398 = 0 then rdL 1 M_404 105 (0 : Int32) fun v_408 => if (lg_cmp v_408 ((r_405).toInt64)) = 0 then f_law_J1520 i M_404 () else none else f_law_J1520 i M_404 ()) else none) else if sw_6 = (22 : Int32) then (rdX L xs (i + (1 : Int32)) fun v_412 => rdX L xs (i + (2 : Int32)) fun v_414 => bd2 (f_L_count v_412 v_414 M) fun r_416 M_417 => rdX L xs (i + (1 : Int32)) fun v_419 => rdX L xs (i + (2 : Int32)) fun v_421 => bd2 (f_X10_count v_419 v_421 M_417) fun r_425 M_424 => if (f_X10_thrown M_424) = r_416 then (if r_416 = 0 then rdL 1 M_424 105 (0 : Int32) fun v_428 => if (lg_cmp v_428 r_425) = 0 then f_law_J1587 i M_424 () else none else f_law_J1587 i M_424 ()) else none) else if sw_6 = (23 : Int32) then (bd2 (f_L_rank M) fun r_432 M_433 => bd2 (f_X10_rank M_433) fun r_437 M_436 => if (f_X10_thrown M_436) = r_432 then (if r_432 = 0 then rdL 1 M_436 105 (0 : Int32) fun v_440 => if (lg_cmp v_440 r_437) = 0 then f_law_J1630 i M_436 () else none else f_law_J1630 i M_436 ()) else none) else if sw_6 = (24 : Int32) then (rdX L xs (i + (1 : Int32)) fun v_444 => rdX L xs (i + (2 : Int32)) fun v_446 => bd2 (f_X9_of ((((v_444).toInt64) <<< (((32 : Int32)).toInt64 &&& 63)) ||| (((v_446).toInt64) &&& (4294967295 : Int64))) M) fun r_450 M_449 => rdX L xs (i + (1 : Int32)) fun v_451 => rdX L xs (i + (2 : Int32)) fun v_453 => bd2 (f_X10_of ((((v_451).toInt64) <<< (((32 : Int32)).toInt64 &&& 63)) ||| (((v_453).toInt64) &&& (4294967295 : Int64))) M_449) fun r_457 M_456 => if r_450 = r_457 then f_law_J1690 i M_456 else none) else (f_law_J1690 i M)
set_option maxRecDepth 100000 in
set_option maxHeartbeats 40000000 in
theorem law_turn {K : Kx} {b L : Nat} {xs : Nat → Int32} (C : Cx K cL_law RL 124) (hL : K.2.2.1 = 8) (hX : Sx K b L xs) (i : Int32) (M : Mm) (cA cB : Nat) (hcs : cA + 8 ≤ K.1.R.cells ∧ cB + 48 ≤ K.1.R.slots) (rr : Option (Int32 × Mm)) (hf : f_turn xs L i M = some rr)
    (hn : ∀ (i' : Int32) (M' : Mm), rr = some (i', M') → G K (cA + 8, cB + 48) 23 [(0, .ref b), (1, .ref (K.2.1.1 + 0)), (2, .ref (K.2.1.1 + 69)), (3, .ref (K.2.1.1 + 105)), (4, .int i')] [] M')
    (hx : rr = none → G K (cA, cB) 1696 [(0, .ref b), (1, .ref (K.2.1.1 + 0)), (2, .ref (K.2.1.1 + 69)), (3, .ref (K.2.1.1 + 105)), (4, .int i)] [] M) : G K (cA, cB) 23 [(0, .ref b), (1, .ref (K.2.1.1 + 0)), (2, .ref (K.2.1.1 + 69)), (3, .ref (K.2.1.1 + 105)), (4, .int i)] [] M := by
  have hL4 : 4 < K.2.2.1 := by rw [hL]; decide
  have hL5 : 5 < K.2.2.1 := by rw [hL]; decide
  have hL6 : 6 < K.2.2.1 := by rw [hL]; decide
  have hL7 : 7 < K.2.2.1 := by rw [hL]; decide
  unfold f_turn at hf
  refine g_iload 4 C (ckD_get k_L_law_0 13 rfl) rfl ?_
  refine g_aload_n 0 C (ckD_get k_L_law_0 14 rfl) rfl rfl ?_
  refine g_slen hX C (ckD_get k_L_law_0 15 rfl) ?_
  refine g_bipush (v := (7 : Int32)) C (ckD_get k_L_law_0 16 rfl) (by decide) ?_
  refine g_isub C (ckD_get k_L_law_0 17 rfl) ?_
  refine g_icmp_gt C (ckD_get k_L_law_0 18 rfl) (fun c_1 => ?_) (fun c_1 => ?_)
  · have hf := if_t hf c_1
    cases hf
    exact hx rfl
  · have hf := if_f hf c_1
    refine g_aload_n 0 C (ckD_get k_L_law_0 19 rfl) rfl rfl ?_
    refine g_iload 4 C (ckD_get k_L_law_0 20 rfl) rfl ?_
    obtain ⟨v_2, hi_3, ev_2, hf⟩ := rdX_e hf
    refine g_sld hX C (ckD_get k_L_law_0 21 rfl) hi_3 ev_2 ?_
    refine g_bipush (v := (31 : Int32)) C (ckD_get k_L_law_0 22 rfl) (by decide) ?_
    refine g_iand C (ckD_get k_L_law_0 23 rfl) ?_
    have hJ_1690 : ∀ (M_4 : Mm), f_law_J1690 i M_4 = some rr → G K (cA + 8, cB + 48) 1690 [(0, .ref b), (1, .ref (K.2.1.1 + 0)), (2, .ref (K.2.1.1 + 69)), (3, .ref (K.2.1.1 + 105)), (4, .int i)] [] M_4 := by
      intro M_4 hf
      unfold f_law_J1690 at hf
      obtain ⟨x4_5, ex4_5, hf⟩ := lt_e hf
      refine g_iinc (lv' := [(4, _), (0, _), (1, _), (2, _), (3, _)]) 4 C (ckD_get k_L_law_26 5 rfl) rfl ex4_5 hL4 rfl ?_
      refine g_goto C (ckD_get k_L_law_26 6 rfl) ?_
      refine G.sub [1, 2, 3, 4, 0] rfl ?_
      refine G.wid (cs' := (cA + 8, cB + 48)) (by show cA + 8 ≤ cA + 8; omega) (by show cB + 48 ≤ cB + 48; omega) ?_
      cases hf
      exact hn _ _ rfl
    obtain ⟨sw_6, esw_6, hf⟩ := lt_e hf
    refine topI esw_6 ?_
    by_cases c_7 : sw_6 = (0 : Int32)
    · have hf := if_t hf c_7
      refine g_tabIn (t := 156) C (ckD_get k_L_law_0 24 rfl) (by rw [c_7]; decide) (by rw [c_7]; decide) (by rw [c_7] <;> rfl) (by decide) ?_
      refine g_aload_n 1 C (ckD_get k_L_law_0 25 rfl) rfl rfl ?_
      refine g_aload_n 0 C (ckD_get k_L_law_0 26 rfl) rfl rfl ?_
      refine g_iload 4 C (ckD_get k_L_law_0 27 rfl) rfl ?_
      refine g_iconst (v := (1 : Int32)) C (ckD_get k_L_law_0 28 rfl) (by decide) ?_
      refine g_iadd C (ckD_get k_L_law_0 29 rfl) ?_
      obtain ⟨v_8, hi_9, ev_8, hf⟩ := rdX_e hf
      refine g_sld hX C (ckD_get k_L_law_0 30 rfl) hi_9 ev_8 ?_
      refine g_aload_n 0 C (ckD_get k_L_law_0 31 rfl) rfl rfl ?_
      refine g_iload 4 C (ckD_get k_L_law_0 32 rfl) rfl ?_
      refine g_iconst (v := (2 : Int32)) C (ckD_get k_L_law_0 33 rfl) (by decide) ?_
      refine g_iadd C (ckD_get k_L_law_0 34 rfl) ?_
      obtain ⟨v_10, hi_11, ev_10, hf⟩ := rdX_e hf
      refine g_sld hX C (ckD_get k_L_law_0 35 rfl) hi_11 ev_10 ?_
      refine g_aload_n 0 C (ckD_get k_L_law_0 36 rfl) rfl rfl ?_
      refine g_iload 4 C (ckD_get k_L_law_0 37 rfl) rfl ?_
      refine g_iconst (v := (3 : Int32)) C (ckD_get k_L_law_0 38 rfl) (by decide) ?_
      refine g_iadd C (ckD_get k_L_law_0 39 rfl) ?_
      obtain ⟨v_12, hi_13, ev_12, hf⟩ := rdX_e hf
      refine g_sld hX C (ckD_get k_L_law_1 0 rfl) hi_13 ev_12 ?_
      have hJ_183 : ∀ (s_14 : Int32), f_law_J183 xs L M i v_8 v_10 s_14 = some rr → G K (cA + 0, cB + 0) 183 [(0, .ref b), (1, .ref (K.2.1.1 + 0)), (2, .ref (K.2.1.1 + 69)), (3, .ref (K.2.1.1 + 105)), (4, .int i)] [.int s_14, .int v_10, .int v_8, .ref (K.2.1.1 + 0)] M := by
        intro s_14 hf
        unfold f_law_J183 at hf
        obtain ⟨r_17, M_16, hr_15, hf⟩ := bd2_e hf
        refine n_cV [.int v_8, .int v_10, .int s_14] [] C (ckD_get k_L_law_1 5 rfl) vk_L_71 (t_X9_block C.tr _ _ _ _ _ hr_15) T0 rfl rfl (Nat.le_of_ble_eq_true rfl) (by decide) ⟨by have := hcs.1; show cA + 0 ≤ _; omega, by have := hcs.2; show cB + 0 ≤ _; omega⟩ rfl ?_
        refine g_aload_n 2 C (ckD_get k_L_law_1 6 rfl) rfl rfl ?_
        refine g_aload_n 0 C (ckD_get k_L_law_1 7 rfl) rfl rfl ?_
        refine g_iload 4 C (ckD_get k_L_law_1 8 rfl) rfl ?_
        refine g_iconst (v := (1 : Int32)) C (ckD_get k_L_law_1 9 rfl) (by decide) ?_
        refine g_iadd C (ckD_get k_L_law_1 10 rfl) ?_
        obtain ⟨v_18, hi_19, ev_18, hf⟩ := rdX_e hf
        refine g_sld hX C (ckD_get k_L_law_1 11 rfl) hi_19 ev_18 ?_
        refine g_aload_n 0 C (ckD_get k_L_law_1 12 rfl) rfl rfl ?_
        refine g_iload 4 C (ckD_get k_L_law_1 13 rfl) rfl ?_
        refine g_iconst (v := (2 : Int32)) C (ckD_get k_L_law_1 14 rfl) (by decide) ?_
        refine g_iadd C (ckD_get k_L_law_1 15 rfl) ?_
        obtain ⟨v_20, hi_21, ev_20, hf⟩ := rdX_e hf
        refine g_sld hX C (ckD_get k_L_law_1 16 rfl) hi_21 ev_20 ?_
        refine g_aload_n 0 C (ckD_get k_L_law_1 17 rfl) rfl rfl ?_
        refine g_iload 4 C (ckD_get k_L_law_1 18 rfl) rfl ?_
        refine g_iconst (v := (3 : Int32)) C (ckD_get k_L_law_1 19 rfl) (by decide) ?_
        refine g_iadd C (ckD_get k_L_law_1 20 rfl) ?_
        obtain ⟨v_22, hi_23, ev_22, hf⟩ := rdX_e hf
        refine g_sld hX C (ckD_get k_L_law_1 21 rfl) hi_23 ev_22 ?_
        have hJ_213 : ∀ (s_24 : Int32), f_law_J213 i M_16 r_17 v_18 v_20 s_24 = some rr → G K (cA + 0, cB + 0) 213 [(0, .ref b), (1, .ref (K.2.1.1 + 0)), (2, .ref (K.2.1.1 + 69)), (3, .ref (K.2.1.1 + 105)), (4, .int i)] [.int s_24, .int v_20, .int v_18, .ref (K.2.1.1 + 69), .int r_17] M_16 := by
          intro s_24 hf
          unfold f_law_J213 at hf
          obtain ⟨r_27, M_26, hr_25, hf⟩ := bd2_e hf
          refine n_cV [.int v_18, .int v_20, .int s_24] [.int r_17] C (ckD_get k_L_law_1 26 rfl) vk_L_75 (t_X10_block C.tr _ _ _ _ _ hr_25) T69 rfl rfl (Nat.le_of_ble_eq_true rfl) (by decide) ⟨by have := hcs.1; show cA + 0 ≤ _; omega, by have := hcs.2; show cB + 0 ≤ _; omega⟩ rfl ?_
          refine g_icmp_eq C (ckD_get k_L_law_1 27 rfl) (fun c_28 => ?_) (fun c_28 => ?_)
          · have hf := if_t hf c_28
            refine G.wid (cs' := (cA + 8, cB + 48)) (by show cA + 0 ≤ cA + 8; omega) (by show cB + 0 ≤ cB + 48; omega) ?_
            exact hJ_1690 _ hf
          · have hf := if_f hf c_28
            cases hf
        refine g_if_eq C (ckD_get k_L_law_1 22 rfl) (fun c_29 => ?_) (fun c_29 => ?_)
        · have hf := if_t hf c_29
          refine g_iconst (v := (0 : Int32)) C (ckD_get k_L_law_1 25 rfl) (by decide) ?_
          exact hJ_213 _ hf
        · have hf := if_f hf c_29
          refine g_iconst (v := (1 : Int32)) C (ckD_get k_L_law_1 23 rfl) (by decide) ?_
          refine g_goto C (ckD_get k_L_law_1 24 rfl) ?_
          exact hJ_213 _ hf
      refine g_if_eq C (ckD_get k_L_law_1 1 rfl) (fun c_30 => ?_) (fun c_30 => ?_)
      · have hf := if_t hf c_30
        refine g_iconst (v := (0 : Int32)) C (ckD_get k_L_law_1 4 rfl) (by decide) ?_
        exact hJ_183 _ hf
      · have hf := if_f hf c_30
        refine g_iconst (v := (1 : Int32)) C (ckD_get k_L_law_1 2 rfl) (by decide) ?_
        refine g_goto C (ckD_get k_L_law_1 3 rfl) ?_
        exact hJ_183 _ hf
    · have hf := if_f hf c_7
      by_cases c_31 : sw_6 = (1 : Int32)
      · have hf := if_t hf c_31
        refine g_tabIn (t := 221) C (ckD_get k_L_law_0 24 rfl) (by rw [c_31]; decide) (by rw [c_31]; decide) (by rw [c_31] <;> rfl) (by decide) ?_
        refine g_aload_n 1 C (ckD_get k_L_law_1 30 rfl) rfl rfl ?_
        obtain ⟨r_34, M_33, hr_32, hf⟩ := bd2_e hf
        refine n_cV [] [] C (ckD_get k_L_law_1 31 rfl) vk_L_76 (t_X9_less C.tr _ _ hr_32) T0 rfl rfl (Nat.le_of_ble_eq_true rfl) (by decide) ⟨by have := hcs.1; show cA + 0 ≤ _; omega, by have := hcs.2; show cB + 0 ≤ _; omega⟩ rfl ?_
        refine g_aload_n 2 C (ckD_get k_L_law_1 32 rfl) rfl rfl ?_
        obtain ⟨r_37, M_36, hr_35, hf⟩ := bd2_e hf
        refine n_cV [] [.int r_34] C (ckD_get k_L_law_1 33 rfl) vk_L_79 (t_X10_less C.tr _ _ hr_35) T69 rfl rfl (Nat.le_of_ble_eq_true rfl) (by decide) ⟨by have := hcs.1; show cA + 0 ≤ _; omega, by have := hcs.2; show cB + 0 ≤ _; omega⟩ rfl ?_
        refine g_icmp_eq C (ckD_get k_L_law_1 34 rfl) (fun c_38 => ?_) (fun c_38 => ?_)
        · have hf := if_t hf c_38
          refine G.wid (cs' := (cA + 8, cB + 48)) (by show cA + 0 ≤ cA + 8; omega) (by show cB + 0 ≤ cB + 48; omega) ?_
          exact hJ_1690 _ hf
        · have hf := if_f hf c_38
          cases hf
      · have hf := if_f hf c_31
        by_cases c_39 : sw_6 = (2 : Int32)
        · have hf := if_t hf c_39
          refine g_tabIn (t := 234) C (ckD_get k_L_law_0 24 rfl) (by rw [c_39]; decide) (by rw [c_39]; decide) (by rw [c_39] <;> rfl) (by decide) ?_
          refine g_aload_n 1 C (ckD_get k_L_law_1 37 rfl) rfl rfl ?_
          refine g_aload_n 0 C (ckD_get k_L_law_1 38 rfl) rfl rfl ?_
          refine g_iload 4 C (ckD_get k_L_law_1 39 rfl) rfl ?_
          refine g_iconst (v := (1 : Int32)) C (ckD_get k_L_law_2 0 rfl) (by decide) ?_
          refine g_iadd C (ckD_get k_L_law_2 1 rfl) ?_
          obtain ⟨v_40, hi_41, ev_40, hf⟩ := rdX_e hf
          refine g_sld hX C (ckD_get k_L_law_2 2 rfl) hi_41 ev_40 ?_
          refine g_aload_n 0 C (ckD_get k_L_law_2 3 rfl) rfl rfl ?_
          refine g_iload 4 C (ckD_get k_L_law_2 4 rfl) rfl ?_
          refine g_iconst (v := (2 : Int32)) C (ckD_get k_L_law_2 5 rfl) (by decide) ?_
          refine g_iadd C (ckD_get k_L_law_2 6 rfl) ?_
          obtain ⟨v_42, hi_43, ev_42, hf⟩ := rdX_e hf
          refine g_sld hX C (ckD_get k_L_law_2 7 rfl) hi_43 ev_42 ?_
          refine g_aload_n 3 C (ckD_get k_L_law_2 8 rfl) rfl rfl ?_
          obtain ⟨r_44, M_45, hr_46, hf⟩ := bd2_e hf
          refine g_cSW [.ref (K.2.1.1 + 0), .int v_40, .int v_42, .ref (K.2.1.1 + 105)] [] C (ckD_get k_L_law_2 9 rfl) wk_L_80 (t_L_side C.tr _ _ _ _ hr_46) rfl rfl (Nat.le_of_ble_eq_true rfl) (by decide) ⟨by have := hcs.1; show cA + 2 ≤ _; omega, by have := hcs.2; show cB + 12 ≤ _; omega⟩ rfl ?_
          refine g_istore (lv' := [(5, _), (0, _), (1, _), (2, _), (3, _), (4, _)]) C (ckD_get k_L_law_2 10 rfl) hL5 rfl ?_
          refine g_aload_n 3 C (ckD_get k_L_law_2 11 rfl) rfl rfl ?_
          refine g_aload_n 1 C (ckD_get k_L_law_2 12 rfl) rfl rfl ?_
          refine g_iload 5 C (ckD_get k_L_law_2 13 rfl) rfl ?_
          refine g_iconst (v := (1 : Int32)) C (ckD_get k_L_law_2 14 rfl) (by decide) ?_
          refine g_iadd C (ckD_get k_L_law_2 15 rfl) ?_
          obtain ⟨v_47, hi_48, ev_47, hf⟩ := rdX_e hf
          refine g_sld hX C (ckD_get k_L_law_2 16 rfl) hi_48 ev_47 ?_
          refine g_aload_n 1 C (ckD_get k_L_law_2 17 rfl) rfl rfl ?_
          refine g_iload 5 C (ckD_get k_L_law_2 18 rfl) rfl ?_
          refine g_iconst (v := (2 : Int32)) C (ckD_get k_L_law_2 19 rfl) (by decide) ?_
          refine g_iadd C (ckD_get k_L_law_2 20 rfl) ?_
          obtain ⟨v_49, hi_50, ev_49, hf⟩ := rdX_e hf
          refine g_sld hX C (ckD_get k_L_law_2 21 rfl) hi_50 ev_49 ?_
          obtain ⟨r_53, M_52, hr_51, hf⟩ := bd2_e hf
          refine n_cV [.int v_47, .int v_49] [] C (ckD_get k_L_law_2 22 rfl) vk_L_85 (t_X10_side C.tr _ _ _ _ hr_51) T69 rfl rfl (Nat.le_of_ble_eq_true rfl) (by decide) ⟨by have := hcs.1; show cA + 2 ≤ _; omega, by have := hcs.2; show cB + 12 ≤ _; omega⟩ rfl ?_
          refine g_istore (lv' := [(6, _), (5, _), (0, _), (1, _), (2, _), (3, _), (4, _)]) C (ckD_get k_L_law_2 23 rfl) hL6 rfl ?_
          refine g_aload_n 4 C (ckD_get k_L_law_2 24 rfl) rfl rfl ?_
          refine n_cV [] [] C (ckD_get k_L_law_2 25 rfl) vk_L_86 (t_X10_thrown C.tr _ _ rfl) T69 rfl rfl (Nat.le_of_ble_eq_true rfl) (by decide) ⟨by have := hcs.1; show cA + 2 ≤ _; omega, by have := hcs.2; show cB + 12 ≤ _; omega⟩ rfl ?_
          refine g_iload 1 C (ckD_get k_L_law_2 26 rfl) rfl ?_
          refine g_icmp_eq C (ckD_get k_L_law_2 27 rfl) (fun c_54 => ?_) (fun c_54 => ?_)
          · have hf := if_t hf c_54
            refine g_iload 1 C (ckD_get k_L_law_2 30 rfl) rfl ?_
            have hJ_299 : ∀ (_ : Unit), f_law_J299 i M_52 () = some rr → G K (cA + 2, cB + 12) 299 [(0, .ref b), (1, .ref (K.2.1.1 + 0)), (2, .ref (K.2.1.1 + 69)), (3, .ref (K.2.1.1 + 105)), (4, .int i)] [] M_52 := by
              intro _ hf
              unfold f_law_J299 at hf
              refine g_goto C (ckD_get k_L_law_3 1 rfl) ?_
              refine G.wid (cs' := (cA + 8, cB + 48)) (by show cA + 2 ≤ cA + 8; omega) (by show cB + 12 ≤ cB + 48; omega) ?_
              exact hJ_1690 _ hf
            refine g_if_ne C (ckD_get k_L_law_2 31 rfl) (fun c_55 => ?_) (fun c_55 => ?_)
            · have hf := if_f hf c_55
              refine G.sub [2, 3, 4, 5, 6] rfl ?_
              exact hJ_299 () hf
            · have hf := if_t hf c_55
              refine g_aload_n 5 C (ckD_get k_L_law_2 32 rfl) rfl rfl ?_
              refine g_iconst (v := (0 : Int32)) C (ckD_get k_L_law_2 33 rfl) (by decide) ?_
              obtain ⟨v_56, hi_57, ev_56, hf⟩ := rdL_e hf
              refine n_lald C (ckD_get k_L_law_2 34 rfl) T105 hi_57 ev_56 ?_
              refine g_iload 0 C (ckD_get k_L_law_2 35 rfl) rfl ?_
              refine g_i2l C (ckD_get k_L_law_2 36 rfl) ?_
              refine g_lcmp C (ckD_get k_L_law_2 37 rfl) ?_
              refine g_if_eq C (ckD_get k_L_law_2 38 rfl) (fun c_58 => ?_) (fun c_58 => ?_)
              · have hf := if_t hf c_58
                refine G.sub [2, 3, 4, 5, 6] rfl ?_
                exact hJ_299 () hf
              · have hf := if_f hf c_58
                cases hf
          · have hf := if_f hf c_54
            cases hf
        · have hf := if_f hf c_39
          by_cases c_59 : sw_6 = (3 : Int32)
          · have hf := if_t hf c_59
            refine g_tabIn (t := 302) C (ckD_get k_L_law_0 24 rfl) (by rw [c_59]; decide) (by rw [c_59]; decide) (by rw [c_59] <;> rfl) (by decide) ?_
            refine g_aload_n 1 C (ckD_get k_L_law_3 2 rfl) rfl rfl ?_
            refine g_aload_n 0 C (ckD_get k_L_law_3 3 rfl) rfl rfl ?_
            refine g_iload 4 C (ckD_get k_L_law_3 4 rfl) rfl ?_
            refine g_iconst (v := (1 : Int32)) C (ckD_get k_L_law_3 5 rfl) (by decide) ?_
            refine g_iadd C (ckD_get k_L_law_3 6 rfl) ?_
            obtain ⟨v_60, hi_61, ev_60, hf⟩ := rdX_e hf
            refine g_sld hX C (ckD_get k_L_law_3 7 rfl) hi_61 ev_60 ?_
            refine g_aload_n 0 C (ckD_get k_L_law_3 8 rfl) rfl rfl ?_
            refine g_iload 4 C (ckD_get k_L_law_3 9 rfl) rfl ?_
            refine g_iconst (v := (2 : Int32)) C (ckD_get k_L_law_3 10 rfl) (by decide) ?_
            refine g_iadd C (ckD_get k_L_law_3 11 rfl) ?_
            obtain ⟨v_62, hi_63, ev_62, hf⟩ := rdX_e hf
            refine g_sld hX C (ckD_get k_L_law_3 12 rfl) hi_63 ev_62 ?_
            refine g_aload_n 3 C (ckD_get k_L_law_3 13 rfl) rfl rfl ?_
            obtain ⟨r_64, M_65, hr_66, hf⟩ := bd2_e hf
            refine g_cSW [.ref (K.2.1.1 + 0), .int v_60, .int v_62, .ref (K.2.1.1 + 105)] [] C (ckD_get k_L_law_3 14 rfl) wk_L_89 (t_L_net C.tr _ _ _ _ hr_66) rfl rfl (Nat.le_of_ble_eq_true rfl) (by decide) ⟨by have := hcs.1; show cA + 1 ≤ _; omega, by have := hcs.2; show cB + 6 ≤ _; omega⟩ rfl ?_
            refine g_istore (lv' := [(5, _), (0, _), (1, _), (2, _), (3, _), (4, _)]) C (ckD_get k_L_law_3 15 rfl) hL5 rfl ?_
            refine g_aload_n 3 C (ckD_get k_L_law_3 16 rfl) rfl rfl ?_
            refine g_aload_n 1 C (ckD_get k_L_law_3 17 rfl) rfl rfl ?_
            refine g_iload 5 C (ckD_get k_L_law_3 18 rfl) rfl ?_
            refine g_iconst (v := (1 : Int32)) C (ckD_get k_L_law_3 19 rfl) (by decide) ?_
            refine g_iadd C (ckD_get k_L_law_3 20 rfl) ?_
            obtain ⟨v_67, hi_68, ev_67, hf⟩ := rdX_e hf
            refine g_sld hX C (ckD_get k_L_law_3 21 rfl) hi_68 ev_67 ?_
            refine g_aload_n 1 C (ckD_get k_L_law_3 22 rfl) rfl rfl ?_
            refine g_iload 5 C (ckD_get k_L_law_3 23 rfl) rfl ?_
            refine g_iconst (v := (2 : Int32)) C (ckD_get k_L_law_3 24 rfl) (by decide) ?_
            refine g_iadd C (ckD_get k_L_law_3 25 rfl) ?_
            obtain ⟨v_69, hi_70, ev_69, hf⟩ := rdX_e hf
            refine g_sld hX C (ckD_get k_L_law_3 26 rfl) hi_70 ev_69 ?_
            obtain ⟨r_73, M_72, hr_71, hf⟩ := bd2_e hf
            refine n_cV [.int v_67, .int v_69] [] C (ckD_get k_L_law_3 27 rfl) vk_L_91 (t_X10_net C.tr _ _ _ _ hr_71) T69 rfl rfl (Nat.le_of_ble_eq_true rfl) (by decide) ⟨by have := hcs.1; show cA + 1 ≤ _; omega, by have := hcs.2; show cB + 6 ≤ _; omega⟩ rfl ?_
            refine g_istore (lv' := [(6, _), (5, _), (0, _), (1, _), (2, _), (3, _), (4, _)]) C (ckD_get k_L_law_3 28 rfl) hL6 rfl ?_
            refine g_aload_n 4 C (ckD_get k_L_law_3 29 rfl) rfl rfl ?_
            refine n_cV [] [] C (ckD_get k_L_law_3 30 rfl) vk_L_86 (t_X10_thrown C.tr _ _ rfl) T69 rfl rfl (Nat.le_of_ble_eq_true rfl) (by decide) ⟨by have := hcs.1; show cA + 1 ≤ _; omega, by have := hcs.2; show cB + 6 ≤ _; omega⟩ rfl ?_
            refine g_iload 1 C (ckD_get k_L_law_3 31 rfl) rfl ?_
            refine g_icmp_eq C (ckD_get k_L_law_3 32 rfl) (fun c_74 => ?_) (fun c_74 => ?_)
            · have hf := if_t hf c_74
              refine g_iload 1 C (ckD_get k_L_law_3 35 rfl) rfl ?_
              have hJ_367 : ∀ (_ : Unit), f_law_J367 i M_72 () = some rr → G K (cA + 1, cB + 6) 367 [(0, .ref b), (1, .ref (K.2.1.1 + 0)), (2, .ref (K.2.1.1 + 69)), (3, .ref (K.2.1.1 + 105)), (4, .int i)] [] M_72 := by
                intro _ hf
                unfold f_law_J367 at hf
                refine g_goto C (ckD_get k_L_law_4 6 rfl) ?_
                refine G.wid (cs' := (cA + 8, cB + 48)) (by show cA + 1 ≤ cA + 8; omega) (by show cB + 6 ≤ cB + 48; omega) ?_
                exact hJ_1690 _ hf
              refine g_if_ne C (ckD_get k_L_law_3 36 rfl) (fun c_75 => ?_) (fun c_75 => ?_)
              · have hf := if_f hf c_75
                refine G.sub [2, 3, 4, 5, 6] rfl ?_
                exact hJ_367 () hf
              · have hf := if_t hf c_75
                refine g_aload_n 5 C (ckD_get k_L_law_3 37 rfl) rfl rfl ?_
                refine g_iconst (v := (0 : Int32)) C (ckD_get k_L_law_3 38 rfl) (by decide) ?_
                obtain ⟨v_76, hi_77, ev_76, hf⟩ := rdL_e hf
                refine n_lald C (ckD_get k_L_law_3 39 rfl) T105 hi_77 ev_76 ?_
                refine g_iload 0 C (ckD_get k_L_law_4 0 rfl) rfl ?_
                refine g_i2l C (ckD_get k_L_law_4 1 rfl) ?_
                refine g_lcmp C (ckD_get k_L_law_4 2 rfl) ?_
                refine g_if_eq C (ckD_get k_L_law_4 3 rfl) (fun c_78 => ?_) (fun c_78 => ?_)
                · have hf := if_t hf c_78
                  refine G.sub [2, 3, 4, 5, 6] rfl ?_
                  exact hJ_367 () hf
                · have hf := if_f hf c_78
                  cases hf
            · have hf := if_f hf c_74
              cases hf
          · have hf := if_f hf c_59
            by_cases c_79 : sw_6 = (4 : Int32)
            · have hf := if_t hf c_79
              refine g_tabIn (t := 370) C (ckD_get k_L_law_0 24 rfl) (by rw [c_79]; decide) (by rw [c_79]; decide) (by rw [c_79] <;> rfl) (by decide) ?_
              refine g_aload_n 1 C (ckD_get k_L_law_4 7 rfl) rfl rfl ?_
              obtain ⟨r_82, M_81, hr_80, hf⟩ := bd2_e hf
              refine n_cV [] [] C (ckD_get k_L_law_4 8 rfl) vk_L_92 (t_X9_places C.tr _ _ hr_80) T0 rfl rfl (Nat.le_of_ble_eq_true rfl) (by decide) ⟨by have := hcs.1; show cA + 0 ≤ _; omega, by have := hcs.2; show cB + 0 ≤ _; omega⟩ rfl ?_
              refine g_aload_n 2 C (ckD_get k_L_law_4 9 rfl) rfl rfl ?_
              obtain ⟨r_85, M_84, hr_83, hf⟩ := bd2_e hf
              refine n_cV [] [.int r_82] C (ckD_get k_L_law_4 10 rfl) vk_L_95 (t_X10_places C.tr _ _ hr_83) T69 rfl rfl (Nat.le_of_ble_eq_true rfl) (by decide) ⟨by have := hcs.1; show cA + 0 ≤ _; omega, by have := hcs.2; show cB + 0 ≤ _; omega⟩ rfl ?_
              refine g_icmp_eq C (ckD_get k_L_law_4 11 rfl) (fun c_86 => ?_) (fun c_86 => ?_)
              · have hf := if_t hf c_86
                refine G.wid (cs' := (cA + 8, cB + 48)) (by show cA + 0 ≤ cA + 8; omega) (by show cB + 0 ≤ cB + 48; omega) ?_
                exact hJ_1690 _ hf
              · have hf := if_f hf c_86
                cases hf
            · have hf := if_f hf c_79
              by_cases c_87 : sw_6 = (5 : Int32)
              · have hf := if_t hf c_87
                refine g_tabIn (t := 383) C (ckD_get k_L_law_0 24 rfl) (by rw [c_87]; decide) (by rw [c_87]; decide) (by rw [c_87] <;> rfl) (by decide) ?_
                refine g_aload_n 1 C (ckD_get k_L_law_4 14 rfl) rfl rfl ?_
                refine g_aload_n 0 C (ckD_get k_L_law_4 15 rfl) rfl rfl ?_
                refine g_iload 4 C (ckD_get k_L_law_4 16 rfl) rfl ?_
                refine g_iconst (v := (1 : Int32)) C (ckD_get k_L_law_4 17 rfl) (by decide) ?_
                refine g_iadd C (ckD_get k_L_law_4 18 rfl) ?_
                obtain ⟨v_88, hi_89, ev_88, hf⟩ := rdX_e hf
                refine g_sld hX C (ckD_get k_L_law_4 19 rfl) hi_89 ev_88 ?_
                refine g_aload_n 0 C (ckD_get k_L_law_4 20 rfl) rfl rfl ?_
                refine g_iload 4 C (ckD_get k_L_law_4 21 rfl) rfl ?_
                refine g_iconst (v := (2 : Int32)) C (ckD_get k_L_law_4 22 rfl) (by decide) ?_
                refine g_iadd C (ckD_get k_L_law_4 23 rfl) ?_
                obtain ⟨v_90, hi_91, ev_90, hf⟩ := rdX_e hf
                refine g_sld hX C (ckD_get k_L_law_4 24 rfl) hi_91 ev_90 ?_
                refine g_aload_n 0 C (ckD_get k_L_law_4 25 rfl) rfl rfl ?_
                refine g_iload 4 C (ckD_get k_L_law_4 26 rfl) rfl ?_
                refine g_iconst (v := (3 : Int32)) C (ckD_get k_L_law_4 27 rfl) (by decide) ?_
                refine g_iadd C (ckD_get k_L_law_4 28 rfl) ?_
                obtain ⟨v_92, hi_93, ev_92, hf⟩ := rdX_e hf
                refine g_sld hX C (ckD_get k_L_law_4 29 rfl) hi_93 ev_92 ?_
                refine g_aload_n 0 C (ckD_get k_L_law_4 30 rfl) rfl rfl ?_
                refine g_iload 4 C (ckD_get k_L_law_4 31 rfl) rfl ?_
                refine g_iconst (v := (4 : Int32)) C (ckD_get k_L_law_4 32 rfl) (by decide) ?_
                refine g_iadd C (ckD_get k_L_law_4 33 rfl) ?_
                obtain ⟨v_94, hi_95, ev_94, hf⟩ := rdX_e hf
                refine g_sld hX C (ckD_get k_L_law_4 34 rfl) hi_95 ev_94 ?_
                have hJ_416 : ∀ (s_96 : Int32), f_law_J416 xs L M i v_88 v_90 v_92 s_96 = some rr → G K (cA + 0, cB + 0) 416 [(0, .ref b), (1, .ref (K.2.1.1 + 0)), (2, .ref (K.2.1.1 + 69)), (3, .ref (K.2.1.1 + 105)), (4, .int i)] [.int s_96, .int v_92, .int v_90, .int v_88, .ref (K.2.1.1 + 0)] M := by
                  intro s_96 hf
                  unfold f_law_J416 at hf
                  refine g_aload_n 3 C (ckD_get k_L_law_4 39 rfl) rfl rfl ?_
                  obtain ⟨r_97, M_98, hr_99, hf⟩ := bd2_e hf
                  refine g_cSW [.ref (K.2.1.1 + 0), .int v_88, .int v_90, .int v_92, .int s_96, .ref (K.2.1.1 + 105)] [] C (ckD_get k_L_law_5 0 rfl) wk_L_96 (t_L_put C.tr _ _ _ _ _ _ hr_99) rfl rfl (Nat.le_of_ble_eq_true rfl) (by decide) ⟨by have := hcs.1; show cA + 1 ≤ _; omega, by have := hcs.2; show cB + 6 ≤ _; omega⟩ rfl ?_
                  refine g_istore (lv' := [(5, _), (0, _), (1, _), (2, _), (3, _), (4, _)]) C (ckD_get k_L_law_5 1 rfl) hL5 rfl ?_
                  refine g_aload_n 3 C (ckD_get k_L_law_5 2 rfl) rfl rfl ?_
                  refine g_aload_n 1 C (ckD_get k_L_law_5 3 rfl) rfl rfl ?_
                  refine g_iload 5 C (ckD_get k_L_law_5 4 rfl) rfl ?_
                  refine g_iconst (v := (1 : Int32)) C (ckD_get k_L_law_5 5 rfl) (by decide) ?_
                  refine g_iadd C (ckD_get k_L_law_5 6 rfl) ?_
                  obtain ⟨v_100, hi_101, ev_100, hf⟩ := rdX_e hf
                  refine g_sld hX C (ckD_get k_L_law_5 7 rfl) hi_101 ev_100 ?_
                  refine g_aload_n 1 C (ckD_get k_L_law_5 8 rfl) rfl rfl ?_
                  refine g_iload 5 C (ckD_get k_L_law_5 9 rfl) rfl ?_
                  refine g_iconst (v := (2 : Int32)) C (ckD_get k_L_law_5 10 rfl) (by decide) ?_
                  refine g_iadd C (ckD_get k_L_law_5 11 rfl) ?_
                  obtain ⟨v_102, hi_103, ev_102, hf⟩ := rdX_e hf
                  refine g_sld hX C (ckD_get k_L_law_5 12 rfl) hi_103 ev_102 ?_
                  refine g_aload_n 1 C (ckD_get k_L_law_5 13 rfl) rfl rfl ?_
                  refine g_iload 5 C (ckD_get k_L_law_5 14 rfl) rfl ?_
                  refine g_iconst (v := (3 : Int32)) C (ckD_get k_L_law_5 15 rfl) (by decide) ?_
                  refine g_iadd C (ckD_get k_L_law_5 16 rfl) ?_
                  obtain ⟨v_104, hi_105, ev_104, hf⟩ := rdX_e hf
                  refine g_sld hX C (ckD_get k_L_law_5 17 rfl) hi_105 ev_104 ?_
                  refine g_aload_n 1 C (ckD_get k_L_law_5 18 rfl) rfl rfl ?_
                  refine g_iload 5 C (ckD_get k_L_law_5 19 rfl) rfl ?_
                  refine g_iconst (v := (4 : Int32)) C (ckD_get k_L_law_5 20 rfl) (by decide) ?_
                  refine g_iadd C (ckD_get k_L_law_5 21 rfl) ?_
                  obtain ⟨v_106, hi_107, ev_106, hf⟩ := rdX_e hf
                  refine g_sld hX C (ckD_get k_L_law_5 22 rfl) hi_107 ev_106 ?_
                  have hJ_455 : ∀ (s_108 : Int32), f_law_J455 i r_97 M_98 v_100 v_102 v_104 s_108 = some rr → G K (cA + 1, cB + 6) 455 [(0, .ref b), (1, .ref (K.2.1.1 + 0)), (2, .ref (K.2.1.1 + 69)), (3, .ref (K.2.1.1 + 105)), (4, .int i), (5, .int r_97)] [.int s_108, .int v_104, .int v_102, .int v_100, .ref (K.2.1.1 + 69)] M_98 := by
                    intro s_108 hf
                    unfold f_law_J455 at hf
                    obtain ⟨r_111, M_110, hr_109, hf⟩ := bd2_e hf
                    refine n_cV [.int v_100, .int v_102, .int v_104, .int s_108] [] C (ckD_get k_L_law_5 27 rfl) vk_L_99 (t_X10_put C.tr _ _ _ _ _ _ hr_109) T69 rfl rfl (Nat.le_of_ble_eq_true rfl) (by decide) ⟨by have := hcs.1; show cA + 1 ≤ _; omega, by have := hcs.2; show cB + 6 ≤ _; omega⟩ rfl ?_
                    refine g_istore (lv' := [(6, _), (0, _), (1, _), (2, _), (3, _), (4, _), (5, _)]) C (ckD_get k_L_law_5 28 rfl) hL6 rfl ?_
                    refine g_aload_n 3 C (ckD_get k_L_law_5 29 rfl) rfl rfl ?_
                    refine n_cV [] [] C (ckD_get k_L_law_5 30 rfl) vk_L_86 (t_X10_thrown C.tr _ _ rfl) T69 rfl rfl (Nat.le_of_ble_eq_true rfl) (by decide) ⟨by have := hcs.1; show cA + 1 ≤ _; omega, by have := hcs.2; show cB + 6 ≤ _; omega⟩ rfl ?_
                    refine g_iload 6 C (ckD_get k_L_law_5 31 rfl) rfl ?_
                    refine g_icmp_eq C (ckD_get k_L_law_5 32 rfl) (fun c_112 => ?_) (fun c_112 => ?_)
                    · have hf := if_t hf c_112
                      refine g_iload 6 C (ckD_get k_L_law_5 35 rfl) rfl ?_
                      have hJ_495 : ∀ (_ : Unit), f_law_J495 i M_110 () = some rr → G K (cA + 1, cB + 6) 495 [(0, .ref b), (1, .ref (K.2.1.1 + 0)), (2, .ref (K.2.1.1 + 69)), (3, .ref (K.2.1.1 + 105)), (4, .int i)] [] M_110 := by
                        intro _ hf
                        unfold f_law_J495 at hf
                        refine g_goto C (ckD_get k_L_law_6 9 rfl) ?_
                        refine G.wid (cs' := (cA + 8, cB + 48)) (by show cA + 1 ≤ cA + 8; omega) (by show cB + 6 ≤ cB + 48; omega) ?_
                        exact hJ_1690 _ hf
                      refine g_if_ne C (ckD_get k_L_law_5 36 rfl) (fun c_113 => ?_) (fun c_113 => ?_)
                      · have hf := if_f hf c_113
                        refine G.sub [1, 2, 3, 4, 5] rfl ?_
                        exact hJ_495 () hf
                      · have hf := if_t hf c_113
                        refine g_aload_n 4 C (ckD_get k_L_law_5 37 rfl) rfl rfl ?_
                        refine g_iconst (v := (0 : Int32)) C (ckD_get k_L_law_5 38 rfl) (by decide) ?_
                        obtain ⟨v_114, hi_115, ev_114, hf⟩ := rdL_e hf
                        refine n_lald C (ckD_get k_L_law_5 39 rfl) T105 hi_115 ev_114 ?_
                        refine g_iload 0 C (ckD_get k_L_law_6 0 rfl) rfl ?_
                        have hJ_489 : ∀ (s_116 : Int64), f_law_J489 i M_110 v_114 s_116 = some rr → G K (cA + 1, cB + 6) 489 [(0, .ref b), (1, .ref (K.2.1.1 + 0)), (2, .ref (K.2.1.1 + 69)), (3, .ref (K.2.1.1 + 105)), (4, .int i)] [.long s_116, .long v_114] M_110 := by
                          intro s_116 hf
                          unfold f_law_J489 at hf
                          refine g_lcmp C (ckD_get k_L_law_6 5 rfl) ?_
                          refine g_if_eq C (ckD_get k_L_law_6 6 rfl) (fun c_117 => ?_) (fun c_117 => ?_)
                          · have hf := if_t hf c_117
                            exact hJ_495 () hf
                          · have hf := if_f hf c_117
                            cases hf
                        refine g_if_eq C (ckD_get k_L_law_6 1 rfl) (fun c_118 => ?_) (fun c_118 => ?_)
                        · have hf := if_t hf c_118
                          refine g_lconst (v := (0 : Int64)) C (ckD_get k_L_law_6 4 rfl) (by decide) ?_
                          refine G.sub [1, 2, 3, 4, 5] rfl ?_
                          exact hJ_489 _ hf
                        · have hf := if_f hf c_118
                          refine g_lconst (v := (1 : Int64)) C (ckD_get k_L_law_6 2 rfl) (by decide) ?_
                          refine g_goto C (ckD_get k_L_law_6 3 rfl) ?_
                          refine G.sub [1, 2, 3, 4, 5] rfl ?_
                          exact hJ_489 _ hf
                    · have hf := if_f hf c_112
                      cases hf
                  refine g_if_eq C (ckD_get k_L_law_5 23 rfl) (fun c_119 => ?_) (fun c_119 => ?_)
                  · have hf := if_t hf c_119
                    refine g_iconst (v := (0 : Int32)) C (ckD_get k_L_law_5 26 rfl) (by decide) ?_
                    refine G.sub [1, 2, 3, 4, 5, 0] rfl ?_
                    exact hJ_455 _ hf
                  · have hf := if_f hf c_119
                    refine g_iconst (v := (1 : Int32)) C (ckD_get k_L_law_5 24 rfl) (by decide) ?_
                    refine g_goto C (ckD_get k_L_law_5 25 rfl) ?_
                    refine G.sub [1, 2, 3, 4, 5, 0] rfl ?_
                    exact hJ_455 _ hf
                refine g_if_eq C (ckD_get k_L_law_4 35 rfl) (fun c_120 => ?_) (fun c_120 => ?_)
                · have hf := if_t hf c_120
                  refine g_iconst (v := (0 : Int32)) C (ckD_get k_L_law_4 38 rfl) (by decide) ?_
                  exact hJ_416 _ hf
                · have hf := if_f hf c_120
                  refine g_iconst (v := (1 : Int32)) C (ckD_get k_L_law_4 36 rfl) (by decide) ?_
                  refine g_goto C (ckD_get k_L_law_4 37 rfl) ?_
                  exact hJ_416 _ hf
              · have hf := if_f hf c_87
                by_cases c_121 : sw_6 = (6 : Int32)
                · have hf := if_t hf c_121
                  refine g_tabIn (t := 498) C (ckD_get k_L_law_0 24 rfl) (by rw [c_121]; decide) (by rw [c_121]; decide) (by rw [c_121] <;> rfl) (by decide) ?_
                  refine g_aload_n 1 C (ckD_get k_L_law_6 10 rfl) rfl rfl ?_
                  refine g_aload_n 0 C (ckD_get k_L_law_6 11 rfl) rfl rfl ?_
                  refine g_iload 4 C (ckD_get k_L_law_6 12 rfl) rfl ?_
                  refine g_iconst (v := (1 : Int32)) C (ckD_get k_L_law_6 13 rfl) (by decide) ?_
                  refine g_iadd C (ckD_get k_L_law_6 14 rfl) ?_
                  obtain ⟨v_122, hi_123, ev_122, hf⟩ := rdX_e hf
                  refine g_sld hX C (ckD_get k_L_law_6 15 rfl) hi_123 ev_122 ?_
                  refine g_i2l C (ckD_get k_L_law_6 16 rfl) ?_
                  refine g_bipush (v := (32 : Int32)) C (ckD_get k_L_law_6 17 rfl) (by decide) ?_
                  refine g_lshl C (ckD_get k_L_law_6 18 rfl) ?_
                  refine g_aload_n 0 C (ckD_get k_L_law_6 19 rfl) rfl rfl ?_
                  refine g_iload 4 C (ckD_get k_L_law_6 20 rfl) rfl ?_
                  refine g_iconst (v := (2 : Int32)) C (ckD_get k_L_law_6 21 rfl) (by decide) ?_
                  refine g_iadd C (ckD_get k_L_law_6 22 rfl) ?_
                  obtain ⟨v_124, hi_125, ev_124, hf⟩ := rdX_e hf
                  refine g_sld hX C (ckD_get k_L_law_6 23 rfl) hi_125 ev_124 ?_
                  refine g_i2l C (ckD_get k_L_law_6 24 rfl) ?_
                  refine g_ldc2 C (ckD_get k_L_law_6 25 rfl) q1543 ?_
                  refine g_land C (ckD_get k_L_law_6 26 rfl) ?_
                  refine g_lor C (ckD_get k_L_law_6 27 rfl) ?_
                  refine g_aload_n 0 C (ckD_get k_L_law_6 28 rfl) rfl rfl ?_
                  refine g_iload 4 C (ckD_get k_L_law_6 29 rfl) rfl ?_
                  refine g_iconst (v := (3 : Int32)) C (ckD_get k_L_law_6 30 rfl) (by decide) ?_
                  refine g_iadd C (ckD_get k_L_law_6 31 rfl) ?_
                  obtain ⟨v_126, hi_127, ev_126, hf⟩ := rdX_e hf
                  refine g_sld hX C (ckD_get k_L_law_6 32 rfl) hi_127 ev_126 ?_
                  refine g_i2l C (ckD_get k_L_law_6 33 rfl) ?_
                  refine g_bipush (v := (32 : Int32)) C (ckD_get k_L_law_6 34 rfl) (by decide) ?_
                  refine g_lshl C (ckD_get k_L_law_6 35 rfl) ?_
                  refine g_aload_n 0 C (ckD_get k_L_law_6 36 rfl) rfl rfl ?_
                  refine g_iload 4 C (ckD_get k_L_law_6 37 rfl) rfl ?_
                  refine g_iconst (v := (4 : Int32)) C (ckD_get k_L_law_6 38 rfl) (by decide) ?_
                  refine g_iadd C (ckD_get k_L_law_6 39 rfl) ?_
                  obtain ⟨v_128, hi_129, ev_128, hf⟩ := rdX_e hf
                  refine g_sld hX C (ckD_get k_L_law_7 0 rfl) hi_129 ev_128 ?_
                  refine g_i2l C (ckD_get k_L_law_7 1 rfl) ?_
                  refine g_ldc2 C (ckD_get k_L_law_7 2 rfl) q1543 ?_
                  refine g_land C (ckD_get k_L_law_7 3 rfl) ?_
                  refine g_lor C (ckD_get k_L_law_7 4 rfl) ?_
                  refine g_aload_n 0 C (ckD_get k_L_law_7 5 rfl) rfl rfl ?_
                  refine g_iload 4 C (ckD_get k_L_law_7 6 rfl) rfl ?_
                  refine g_iconst (v := (5 : Int32)) C (ckD_get k_L_law_7 7 rfl) (by decide) ?_
                  refine g_iadd C (ckD_get k_L_law_7 8 rfl) ?_
                  obtain ⟨v_130, hi_131, ev_130, hf⟩ := rdX_e hf
                  refine g_sld hX C (ckD_get k_L_law_7 9 rfl) hi_131 ev_130 ?_
                  obtain ⟨r_134, M_133, hr_132, hf⟩ := bd2_e hf
                  refine n_cV [.long ((((v_122).toInt64) <<< (((32 : Int32)).toInt64 &&& 63)) ||| (((v_124).toInt64) &&& (4294967295 : Int64))), .long ((((v_126).toInt64) <<< (((32 : Int32)).toInt64 &&& 63)) ||| (((v_128).toInt64) &&& (4294967295 : Int64))), .int v_130] [] C (ckD_get k_L_law_7 10 rfl) vk_L_102 (t_X9_pair C.tr _ _ _ _ _ hr_132) T0 rfl rfl (Nat.le_of_ble_eq_true rfl) (by decide) ⟨by have := hcs.1; show cA + 0 ≤ _; omega, by have := hcs.2; show cB + 0 ≤ _; omega⟩ rfl ?_
                  refine g_aload_n 2 C (ckD_get k_L_law_7 11 rfl) rfl rfl ?_
                  refine g_aload_n 0 C (ckD_get k_L_law_7 12 rfl) rfl rfl ?_
                  refine g_iload 4 C (ckD_get k_L_law_7 13 rfl) rfl ?_
                  refine g_iconst (v := (1 : Int32)) C (ckD_get k_L_law_7 14 rfl) (by decide) ?_
                  refine g_iadd C (ckD_get k_L_law_7 15 rfl) ?_
                  obtain ⟨v_135, hi_136, ev_135, hf⟩ := rdX_e hf
                  refine g_sld hX C (ckD_get k_L_law_7 16 rfl) hi_136 ev_135 ?_
                  refine g_i2l C (ckD_get k_L_law_7 17 rfl) ?_
                  refine g_bipush (v := (32 : Int32)) C (ckD_get k_L_law_7 18 rfl) (by decide) ?_
                  refine g_lshl C (ckD_get k_L_law_7 19 rfl) ?_
                  refine g_aload_n 0 C (ckD_get k_L_law_7 20 rfl) rfl rfl ?_
                  refine g_iload 4 C (ckD_get k_L_law_7 21 rfl) rfl ?_
                  refine g_iconst (v := (2 : Int32)) C (ckD_get k_L_law_7 22 rfl) (by decide) ?_
                  refine g_iadd C (ckD_get k_L_law_7 23 rfl) ?_
                  obtain ⟨v_137, hi_138, ev_137, hf⟩ := rdX_e hf
                  refine g_sld hX C (ckD_get k_L_law_7 24 rfl) hi_138 ev_137 ?_
                  refine g_i2l C (ckD_get k_L_law_7 25 rfl) ?_
                  refine g_ldc2 C (ckD_get k_L_law_7 26 rfl) q1543 ?_
                  refine g_land C (ckD_get k_L_law_7 27 rfl) ?_
                  refine g_lor C (ckD_get k_L_law_7 28 rfl) ?_
                  refine g_aload_n 0 C (ckD_get k_L_law_7 29 rfl) rfl rfl ?_
                  refine g_iload 4 C (ckD_get k_L_law_7 30 rfl) rfl ?_
                  refine g_iconst (v := (3 : Int32)) C (ckD_get k_L_law_7 31 rfl) (by decide) ?_
                  refine g_iadd C (ckD_get k_L_law_7 32 rfl) ?_
                  obtain ⟨v_139, hi_140, ev_139, hf⟩ := rdX_e hf
                  refine g_sld hX C (ckD_get k_L_law_7 33 rfl) hi_140 ev_139 ?_
                  refine g_i2l C (ckD_get k_L_law_7 34 rfl) ?_
                  refine g_bipush (v := (32 : Int32)) C (ckD_get k_L_law_7 35 rfl) (by decide) ?_
                  refine g_lshl C (ckD_get k_L_law_7 36 rfl) ?_
                  refine g_aload_n 0 C (ckD_get k_L_law_7 37 rfl) rfl rfl ?_
                  refine g_iload 4 C (ckD_get k_L_law_7 38 rfl) rfl ?_
                  refine g_iconst (v := (4 : Int32)) C (ckD_get k_L_law_7 39 rfl) (by decide) ?_
                  refine g_iadd C (ckD_get k_L_law_8 0 rfl) ?_
                  obtain ⟨v_141, hi_142, ev_141, hf⟩ := rdX_e hf
                  refine g_sld hX C (ckD_get k_L_law_8 1 rfl) hi_142 ev_141 ?_
                  refine g_i2l C (ckD_get k_L_law_8 2 rfl) ?_
                  refine g_ldc2 C (ckD_get k_L_law_8 3 rfl) q1543 ?_
                  refine g_land C (ckD_get k_L_law_8 4 rfl) ?_
                  refine g_lor C (ckD_get k_L_law_8 5 rfl) ?_
                  refine g_aload_n 0 C (ckD_get k_L_law_8 6 rfl) rfl rfl ?_
                  refine g_iload 4 C (ckD_get k_L_law_8 7 rfl) rfl ?_
                  refine g_iconst (v := (5 : Int32)) C (ckD_get k_L_law_8 8 rfl) (by decide) ?_
                  refine g_iadd C (ckD_get k_L_law_8 9 rfl) ?_
                  obtain ⟨v_143, hi_144, ev_143, hf⟩ := rdX_e hf
                  refine g_sld hX C (ckD_get k_L_law_8 10 rfl) hi_144 ev_143 ?_
                  obtain ⟨r_147, M_146, hr_145, hf⟩ := bd2_e hf
                  refine n_cV [.long ((((v_135).toInt64) <<< (((32 : Int32)).toInt64 &&& 63)) ||| (((v_137).toInt64) &&& (4294967295 : Int64))), .long ((((v_139).toInt64) <<< (((32 : Int32)).toInt64 &&& 63)) ||| (((v_141).toInt64) &&& (4294967295 : Int64))), .int v_143] [.int r_134] C (ckD_get k_L_law_8 11 rfl) vk_L_106 (t_X10_pair C.tr _ _ _ _ _ hr_145) T69 rfl rfl (Nat.le_of_ble_eq_true rfl) (by decide) ⟨by have := hcs.1; show cA + 0 ≤ _; omega, by have := hcs.2; show cB + 0 ≤ _; omega⟩ rfl ?_
                  refine g_icmp_eq C (ckD_get k_L_law_8 12 rfl) (fun c_148 => ?_) (fun c_148 => ?_)
                  · have hf := if_t hf c_148
                    refine G.wid (cs' := (cA + 8, cB + 48)) (by show cA + 0 ≤ cA + 8; omega) (by show cB + 0 ≤ cB + 48; omega) ?_
                    exact hJ_1690 _ hf
                  · have hf := if_f hf c_148
                    cases hf
                · have hf := if_f hf c_121
                  by_cases c_149 : sw_6 = (7 : Int32)
                  · have hf := if_t hf c_149
                    refine g_tabIn (t := 611) C (ckD_get k_L_law_0 24 rfl) (by rw [c_149]; decide) (by rw [c_149]; decide) (by rw [c_149] <;> rfl) (by decide) ?_
                    refine g_aload_n 1 C (ckD_get k_L_law_8 15 rfl) rfl rfl ?_
                    refine g_aload_n 0 C (ckD_get k_L_law_8 16 rfl) rfl rfl ?_
                    refine g_iload 4 C (ckD_get k_L_law_8 17 rfl) rfl ?_
                    refine g_iconst (v := (1 : Int32)) C (ckD_get k_L_law_8 18 rfl) (by decide) ?_
                    refine g_iadd C (ckD_get k_L_law_8 19 rfl) ?_
                    obtain ⟨v_150, hi_151, ev_150, hf⟩ := rdX_e hf
                    refine g_sld hX C (ckD_get k_L_law_8 20 rfl) hi_151 ev_150 ?_
                    refine g_i2l C (ckD_get k_L_law_8 21 rfl) ?_
                    refine g_bipush (v := (32 : Int32)) C (ckD_get k_L_law_8 22 rfl) (by decide) ?_
                    refine g_lshl C (ckD_get k_L_law_8 23 rfl) ?_
                    refine g_aload_n 0 C (ckD_get k_L_law_8 24 rfl) rfl rfl ?_
                    refine g_iload 4 C (ckD_get k_L_law_8 25 rfl) rfl ?_
                    refine g_iconst (v := (2 : Int32)) C (ckD_get k_L_law_8 26 rfl) (by decide) ?_
                    refine g_iadd C (ckD_get k_L_law_8 27 rfl) ?_
                    obtain ⟨v_152, hi_153, ev_152, hf⟩ := rdX_e hf
                    refine g_sld hX C (ckD_get k_L_law_8 28 rfl) hi_153 ev_152 ?_
                    refine g_i2l C (ckD_get k_L_law_8 29 rfl) ?_
                    refine g_ldc2 C (ckD_get k_L_law_8 30 rfl) q1543 ?_
                    refine g_land C (ckD_get k_L_law_8 31 rfl) ?_
                    refine g_lor C (ckD_get k_L_law_8 32 rfl) ?_
                    refine g_aload_n 0 C (ckD_get k_L_law_8 33 rfl) rfl rfl ?_
                    refine g_iload 4 C (ckD_get k_L_law_8 34 rfl) rfl ?_
                    refine g_iconst (v := (3 : Int32)) C (ckD_get k_L_law_8 35 rfl) (by decide) ?_
                    refine g_iadd C (ckD_get k_L_law_8 36 rfl) ?_
                    obtain ⟨v_154, hi_155, ev_154, hf⟩ := rdX_e hf
                    refine g_sld hX C (ckD_get k_L_law_8 37 rfl) hi_155 ev_154 ?_
                    refine g_i2l C (ckD_get k_L_law_8 38 rfl) ?_
                    refine g_bipush (v := (32 : Int32)) C (ckD_get k_L_law_8 39 rfl) (by decide) ?_
                    refine g_lshl C (ckD_get k_L_law_9 0 rfl) ?_
                    refine g_aload_n 0 C (ckD_get k_L_law_9 1 rfl) rfl rfl ?_
                    refine g_iload 4 C (ckD_get k_L_law_9 2 rfl) rfl ?_
                    refine g_iconst (v := (4 : Int32)) C (ckD_get k_L_law_9 3 rfl) (by decide) ?_
                    refine g_iadd C (ckD_get k_L_law_9 4 rfl) ?_
                    obtain ⟨v_156, hi_157, ev_156, hf⟩ := rdX_e hf
                    refine g_sld hX C (ckD_get k_L_law_9 5 rfl) hi_157 ev_156 ?_
                    refine g_i2l C (ckD_get k_L_law_9 6 rfl) ?_
                    refine g_ldc2 C (ckD_get k_L_law_9 7 rfl) q1543 ?_
                    refine g_land C (ckD_get k_L_law_9 8 rfl) ?_
                    refine g_lor C (ckD_get k_L_law_9 9 rfl) ?_
                    refine g_aload_n 0 C (ckD_get k_L_law_9 10 rfl) rfl rfl ?_
                    refine g_iload 4 C (ckD_get k_L_law_9 11 rfl) rfl ?_
                    refine g_iconst (v := (5 : Int32)) C (ckD_get k_L_law_9 12 rfl) (by decide) ?_
                    refine g_iadd C (ckD_get k_L_law_9 13 rfl) ?_
                    obtain ⟨v_158, hi_159, ev_158, hf⟩ := rdX_e hf
                    refine g_sld hX C (ckD_get k_L_law_9 14 rfl) hi_159 ev_158 ?_
                    obtain ⟨r_162, M_161, hr_160, hf⟩ := bd2_e hf
                    refine n_cV [.long ((((v_150).toInt64) <<< (((32 : Int32)).toInt64 &&& 63)) ||| (((v_152).toInt64) &&& (4294967295 : Int64))), .long ((((v_154).toInt64) <<< (((32 : Int32)).toInt64 &&& 63)) ||| (((v_156).toInt64) &&& (4294967295 : Int64))), .int v_158] [] C (ckD_get k_L_law_9 15 rfl) vk_L_107 (t_X9_cuts C.tr _ _ _ _ _ hr_160) T0 rfl rfl (Nat.le_of_ble_eq_true rfl) (by decide) ⟨by have := hcs.1; show cA + 0 ≤ _; omega, by have := hcs.2; show cB + 0 ≤ _; omega⟩ rfl ?_
                    refine g_aload_n 2 C (ckD_get k_L_law_9 16 rfl) rfl rfl ?_
                    refine g_aload_n 0 C (ckD_get k_L_law_9 17 rfl) rfl rfl ?_
                    refine g_iload 4 C (ckD_get k_L_law_9 18 rfl) rfl ?_
                    refine g_iconst (v := (1 : Int32)) C (ckD_get k_L_law_9 19 rfl) (by decide) ?_
                    refine g_iadd C (ckD_get k_L_law_9 20 rfl) ?_
                    obtain ⟨v_163, hi_164, ev_163, hf⟩ := rdX_e hf
                    refine g_sld hX C (ckD_get k_L_law_9 21 rfl) hi_164 ev_163 ?_
                    refine g_i2l C (ckD_get k_L_law_9 22 rfl) ?_
                    refine g_bipush (v := (32 : Int32)) C (ckD_get k_L_law_9 23 rfl) (by decide) ?_
                    refine g_lshl C (ckD_get k_L_law_9 24 rfl) ?_
                    refine g_aload_n 0 C (ckD_get k_L_law_9 25 rfl) rfl rfl ?_
                    refine g_iload 4 C (ckD_get k_L_law_9 26 rfl) rfl ?_
                    refine g_iconst (v := (2 : Int32)) C (ckD_get k_L_law_9 27 rfl) (by decide) ?_
                    refine g_iadd C (ckD_get k_L_law_9 28 rfl) ?_
                    obtain ⟨v_165, hi_166, ev_165, hf⟩ := rdX_e hf
                    refine g_sld hX C (ckD_get k_L_law_9 29 rfl) hi_166 ev_165 ?_
                    refine g_i2l C (ckD_get k_L_law_9 30 rfl) ?_
                    refine g_ldc2 C (ckD_get k_L_law_9 31 rfl) q1543 ?_
                    refine g_land C (ckD_get k_L_law_9 32 rfl) ?_
                    refine g_lor C (ckD_get k_L_law_9 33 rfl) ?_
                    refine g_aload_n 0 C (ckD_get k_L_law_9 34 rfl) rfl rfl ?_
                    refine g_iload 4 C (ckD_get k_L_law_9 35 rfl) rfl ?_
                    refine g_iconst (v := (3 : Int32)) C (ckD_get k_L_law_9 36 rfl) (by decide) ?_
                    refine g_iadd C (ckD_get k_L_law_9 37 rfl) ?_
                    obtain ⟨v_167, hi_168, ev_167, hf⟩ := rdX_e hf
                    refine g_sld hX C (ckD_get k_L_law_9 38 rfl) hi_168 ev_167 ?_
                    refine g_i2l C (ckD_get k_L_law_9 39 rfl) ?_
                    refine g_bipush (v := (32 : Int32)) C (ckD_get k_L_law_10 0 rfl) (by decide) ?_
                    refine g_lshl C (ckD_get k_L_law_10 1 rfl) ?_
                    refine g_aload_n 0 C (ckD_get k_L_law_10 2 rfl) rfl rfl ?_
                    refine g_iload 4 C (ckD_get k_L_law_10 3 rfl) rfl ?_
                    refine g_iconst (v := (4 : Int32)) C (ckD_get k_L_law_10 4 rfl) (by decide) ?_
                    refine g_iadd C (ckD_get k_L_law_10 5 rfl) ?_
                    obtain ⟨v_169, hi_170, ev_169, hf⟩ := rdX_e hf
                    refine g_sld hX C (ckD_get k_L_law_10 6 rfl) hi_170 ev_169 ?_
                    refine g_i2l C (ckD_get k_L_law_10 7 rfl) ?_
                    refine g_ldc2 C (ckD_get k_L_law_10 8 rfl) q1543 ?_
                    refine g_land C (ckD_get k_L_law_10 9 rfl) ?_
                    refine g_lor C (ckD_get k_L_law_10 10 rfl) ?_
                    refine g_aload_n 0 C (ckD_get k_L_law_10 11 rfl) rfl rfl ?_
                    refine g_iload 4 C (ckD_get k_L_law_10 12 rfl) rfl ?_
                    refine g_iconst (v := (5 : Int32)) C (ckD_get k_L_law_10 13 rfl) (by decide) ?_
                    refine g_iadd C (ckD_get k_L_law_10 14 rfl) ?_
                    obtain ⟨v_171, hi_172, ev_171, hf⟩ := rdX_e hf
                    refine g_sld hX C (ckD_get k_L_law_10 15 rfl) hi_172 ev_171 ?_
                    obtain ⟨r_175, M_174, hr_173, hf⟩ := bd2_e hf
                    refine n_cV [.long ((((v_163).toInt64) <<< (((32 : Int32)).toInt64 &&& 63)) ||| (((v_165).toInt64) &&& (4294967295 : Int64))), .long ((((v_167).toInt64) <<< (((32 : Int32)).toInt64 &&& 63)) ||| (((v_169).toInt64) &&& (4294967295 : Int64))), .int v_171] [.int r_162] C (ckD_get k_L_law_10 16 rfl) vk_L_110 (t_X10_cuts C.tr _ _ _ _ _ hr_173) T69 rfl rfl (Nat.le_of_ble_eq_true rfl) (by decide) ⟨by have := hcs.1; show cA + 0 ≤ _; omega, by have := hcs.2; show cB + 0 ≤ _; omega⟩ rfl ?_
                    refine g_icmp_eq C (ckD_get k_L_law_10 17 rfl) (fun c_176 => ?_) (fun c_176 => ?_)
                    · have hf := if_t hf c_176
                      refine G.wid (cs' := (cA + 8, cB + 48)) (by show cA + 0 ≤ cA + 8; omega) (by show cB + 0 ≤ cB + 48; omega) ?_
                      exact hJ_1690 _ hf
                    · have hf := if_f hf c_176
                      cases hf
                  · have hf := if_f hf c_149
                    by_cases c_177 : sw_6 = (8 : Int32)
                    · have hf := if_t hf c_177
                      refine g_tabIn (t := 724) C (ckD_get k_L_law_0 24 rfl) (by rw [c_177]; decide) (by rw [c_177]; decide) (by rw [c_177] <;> rfl) (by decide) ?_
                      refine g_aload_n 1 C (ckD_get k_L_law_10 20 rfl) rfl rfl ?_
                      refine g_aload_n 0 C (ckD_get k_L_law_10 21 rfl) rfl rfl ?_
                      refine g_iload 4 C (ckD_get k_L_law_10 22 rfl) rfl ?_
                      refine g_iconst (v := (1 : Int32)) C (ckD_get k_L_law_10 23 rfl) (by decide) ?_
                      refine g_iadd C (ckD_get k_L_law_10 24 rfl) ?_
                      obtain ⟨v_178, hi_179, ev_178, hf⟩ := rdX_e hf
                      refine g_sld hX C (ckD_get k_L_law_10 25 rfl) hi_179 ev_178 ?_
                      refine g_aload_n 0 C (ckD_get k_L_law_10 26 rfl) rfl rfl ?_
                      refine g_iload 4 C (ckD_get k_L_law_10 27 rfl) rfl ?_
                      refine g_iconst (v := (2 : Int32)) C (ckD_get k_L_law_10 28 rfl) (by decide) ?_
                      refine g_iadd C (ckD_get k_L_law_10 29 rfl) ?_
                      obtain ⟨v_180, hi_181, ev_180, hf⟩ := rdX_e hf
                      refine g_sld hX C (ckD_get k_L_law_10 30 rfl) hi_181 ev_180 ?_
                      refine g_i2l C (ckD_get k_L_law_10 31 rfl) ?_
                      refine g_bipush (v := (32 : Int32)) C (ckD_get k_L_law_10 32 rfl) (by decide) ?_
                      refine g_lshl C (ckD_get k_L_law_10 33 rfl) ?_
                      refine g_aload_n 0 C (ckD_get k_L_law_10 34 rfl) rfl rfl ?_
                      refine g_iload 4 C (ckD_get k_L_law_10 35 rfl) rfl ?_
                      refine g_iconst (v := (3 : Int32)) C (ckD_get k_L_law_10 36 rfl) (by decide) ?_
                      refine g_iadd C (ckD_get k_L_law_10 37 rfl) ?_
                      obtain ⟨v_182, hi_183, ev_182, hf⟩ := rdX_e hf
                      refine g_sld hX C (ckD_get k_L_law_10 38 rfl) hi_183 ev_182 ?_
                      refine g_i2l C (ckD_get k_L_law_10 39 rfl) ?_
                      refine g_ldc2 C (ckD_get k_L_law_11 0 rfl) q1543 ?_
                      refine g_land C (ckD_get k_L_law_11 1 rfl) ?_
                      refine g_lor C (ckD_get k_L_law_11 2 rfl) ?_
                      refine g_aload_n 0 C (ckD_get k_L_law_11 3 rfl) rfl rfl ?_
                      refine g_iload 4 C (ckD_get k_L_law_11 4 rfl) rfl ?_
                      refine g_iconst (v := (4 : Int32)) C (ckD_get k_L_law_11 5 rfl) (by decide) ?_
                      refine g_iadd C (ckD_get k_L_law_11 6 rfl) ?_
                      obtain ⟨v_184, hi_185, ev_184, hf⟩ := rdX_e hf
                      refine g_sld hX C (ckD_get k_L_law_11 7 rfl) hi_185 ev_184 ?_
                      refine g_i2l C (ckD_get k_L_law_11 8 rfl) ?_
                      refine g_bipush (v := (32 : Int32)) C (ckD_get k_L_law_11 9 rfl) (by decide) ?_
                      refine g_lshl C (ckD_get k_L_law_11 10 rfl) ?_
                      refine g_aload_n 0 C (ckD_get k_L_law_11 11 rfl) rfl rfl ?_
                      refine g_iload 4 C (ckD_get k_L_law_11 12 rfl) rfl ?_
                      refine g_iconst (v := (5 : Int32)) C (ckD_get k_L_law_11 13 rfl) (by decide) ?_
                      refine g_iadd C (ckD_get k_L_law_11 14 rfl) ?_
                      obtain ⟨v_186, hi_187, ev_186, hf⟩ := rdX_e hf
                      refine g_sld hX C (ckD_get k_L_law_11 15 rfl) hi_187 ev_186 ?_
                      refine g_i2l C (ckD_get k_L_law_11 16 rfl) ?_
                      refine g_ldc2 C (ckD_get k_L_law_11 17 rfl) q1543 ?_
                      refine g_land C (ckD_get k_L_law_11 18 rfl) ?_
                      refine g_lor C (ckD_get k_L_law_11 19 rfl) ?_
                      refine g_aload_n 0 C (ckD_get k_L_law_11 20 rfl) rfl rfl ?_
                      refine g_iload 4 C (ckD_get k_L_law_11 21 rfl) rfl ?_
                      refine g_bipush (v := (6 : Int32)) C (ckD_get k_L_law_11 22 rfl) (by decide) ?_
                      refine g_iadd C (ckD_get k_L_law_11 23 rfl) ?_
                      obtain ⟨v_188, hi_189, ev_188, hf⟩ := rdX_e hf
                      refine g_sld hX C (ckD_get k_L_law_11 24 rfl) hi_189 ev_188 ?_
                      obtain ⟨r_192, M_191, hr_190, hf⟩ := bd2_e hf
                      refine n_cV [.int v_178, .long ((((v_180).toInt64) <<< (((32 : Int32)).toInt64 &&& 63)) ||| (((v_182).toInt64) &&& (4294967295 : Int64))), .long ((((v_184).toInt64) <<< (((32 : Int32)).toInt64 &&& 63)) ||| (((v_186).toInt64) &&& (4294967295 : Int64))), .int v_188] [] C (ckD_get k_L_law_11 25 rfl) vk_L_111 (t_X9_tree C.tr _ _ _ _ _ _ hr_190) T0 rfl rfl (Nat.le_of_ble_eq_true rfl) (by decide) ⟨by have := hcs.1; show cA + 0 ≤ _; omega, by have := hcs.2; show cB + 0 ≤ _; omega⟩ rfl ?_
                      refine g_aload_n 2 C (ckD_get k_L_law_11 26 rfl) rfl rfl ?_
                      refine g_aload_n 0 C (ckD_get k_L_law_11 27 rfl) rfl rfl ?_
                      refine g_iload 4 C (ckD_get k_L_law_11 28 rfl) rfl ?_
                      refine g_iconst (v := (1 : Int32)) C (ckD_get k_L_law_11 29 rfl) (by decide) ?_
                      refine g_iadd C (ckD_get k_L_law_11 30 rfl) ?_
                      obtain ⟨v_193, hi_194, ev_193, hf⟩ := rdX_e hf
                      refine g_sld hX C (ckD_get k_L_law_11 31 rfl) hi_194 ev_193 ?_
                      refine g_aload_n 0 C (ckD_get k_L_law_11 32 rfl) rfl rfl ?_
                      refine g_iload 4 C (ckD_get k_L_law_11 33 rfl) rfl ?_
                      refine g_iconst (v := (2 : Int32)) C (ckD_get k_L_law_11 34 rfl) (by decide) ?_
                      refine g_iadd C (ckD_get k_L_law_11 35 rfl) ?_
                      obtain ⟨v_195, hi_196, ev_195, hf⟩ := rdX_e hf
                      refine g_sld hX C (ckD_get k_L_law_11 36 rfl) hi_196 ev_195 ?_
                      refine g_i2l C (ckD_get k_L_law_11 37 rfl) ?_
                      refine g_bipush (v := (32 : Int32)) C (ckD_get k_L_law_11 38 rfl) (by decide) ?_
                      refine g_lshl C (ckD_get k_L_law_11 39 rfl) ?_
                      refine g_aload_n 0 C (ckD_get k_L_law_12 0 rfl) rfl rfl ?_
                      refine g_iload 4 C (ckD_get k_L_law_12 1 rfl) rfl ?_
                      refine g_iconst (v := (3 : Int32)) C (ckD_get k_L_law_12 2 rfl) (by decide) ?_
                      refine g_iadd C (ckD_get k_L_law_12 3 rfl) ?_
                      obtain ⟨v_197, hi_198, ev_197, hf⟩ := rdX_e hf
                      refine g_sld hX C (ckD_get k_L_law_12 4 rfl) hi_198 ev_197 ?_
                      refine g_i2l C (ckD_get k_L_law_12 5 rfl) ?_
                      refine g_ldc2 C (ckD_get k_L_law_12 6 rfl) q1543 ?_
                      refine g_land C (ckD_get k_L_law_12 7 rfl) ?_
                      refine g_lor C (ckD_get k_L_law_12 8 rfl) ?_
                      refine g_aload_n 0 C (ckD_get k_L_law_12 9 rfl) rfl rfl ?_
                      refine g_iload 4 C (ckD_get k_L_law_12 10 rfl) rfl ?_
                      refine g_iconst (v := (4 : Int32)) C (ckD_get k_L_law_12 11 rfl) (by decide) ?_
                      refine g_iadd C (ckD_get k_L_law_12 12 rfl) ?_
                      obtain ⟨v_199, hi_200, ev_199, hf⟩ := rdX_e hf
                      refine g_sld hX C (ckD_get k_L_law_12 13 rfl) hi_200 ev_199 ?_
                      refine g_i2l C (ckD_get k_L_law_12 14 rfl) ?_
                      refine g_bipush (v := (32 : Int32)) C (ckD_get k_L_law_12 15 rfl) (by decide) ?_
                      refine g_lshl C (ckD_get k_L_law_12 16 rfl) ?_
                      refine g_aload_n 0 C (ckD_get k_L_law_12 17 rfl) rfl rfl ?_
                      refine g_iload 4 C (ckD_get k_L_law_12 18 rfl) rfl ?_
                      refine g_iconst (v := (5 : Int32)) C (ckD_get k_L_law_12 19 rfl) (by decide) ?_
                      refine g_iadd C (ckD_get k_L_law_12 20 rfl) ?_
                      obtain ⟨v_201, hi_202, ev_201, hf⟩ := rdX_e hf
                      refine g_sld hX C (ckD_get k_L_law_12 21 rfl) hi_202 ev_201 ?_
                      refine g_i2l C (ckD_get k_L_law_12 22 rfl) ?_
                      refine g_ldc2 C (ckD_get k_L_law_12 23 rfl) q1543 ?_
                      refine g_land C (ckD_get k_L_law_12 24 rfl) ?_
                      refine g_lor C (ckD_get k_L_law_12 25 rfl) ?_
                      refine g_aload_n 0 C (ckD_get k_L_law_12 26 rfl) rfl rfl ?_
                      refine g_iload 4 C (ckD_get k_L_law_12 27 rfl) rfl ?_
                      refine g_bipush (v := (6 : Int32)) C (ckD_get k_L_law_12 28 rfl) (by decide) ?_
                      refine g_iadd C (ckD_get k_L_law_12 29 rfl) ?_
                      obtain ⟨v_203, hi_204, ev_203, hf⟩ := rdX_e hf
                      refine g_sld hX C (ckD_get k_L_law_12 30 rfl) hi_204 ev_203 ?_
                      obtain ⟨r_207, M_206, hr_205, hf⟩ := bd2_e hf
                      refine n_cV [.int v_193, .long ((((v_195).toInt64) <<< (((32 : Int32)).toInt64 &&& 63)) ||| (((v_197).toInt64) &&& (4294967295 : Int64))), .long ((((v_199).toInt64) <<< (((32 : Int32)).toInt64 &&& 63)) ||| (((v_201).toInt64) &&& (4294967295 : Int64))), .int v_203] [.int r_192] C (ckD_get k_L_law_12 31 rfl) vk_L_115 (t_X10_tree C.tr _ _ _ _ _ _ hr_205) T69 rfl rfl (Nat.le_of_ble_eq_true rfl) (by decide) ⟨by have := hcs.1; show cA + 0 ≤ _; omega, by have := hcs.2; show cB + 0 ≤ _; omega⟩ rfl ?_
                      refine g_icmp_eq C (ckD_get k_L_law_12 32 rfl) (fun c_208 => ?_) (fun c_208 => ?_)
                      · have hf := if_t hf c_208
                        refine G.wid (cs' := (cA + 8, cB + 48)) (by show cA + 0 ≤ cA + 8; omega) (by show cB + 0 ≤ cB + 48; omega) ?_
                        exact hJ_1690 _ hf
                      · have hf := if_f hf c_208
                        cases hf
                    · have hf := if_f hf c_177
                      by_cases c_209 : sw_6 = (9 : Int32)
                      · have hf := if_t hf c_209
                        refine g_tabIn (t := 851) C (ckD_get k_L_law_0 24 rfl) (by rw [c_209]; decide) (by rw [c_209]; decide) (by rw [c_209] <;> rfl) (by decide) ?_
                        refine g_aload_n 1 C (ckD_get k_L_law_12 35 rfl) rfl rfl ?_
                        refine g_aload_n 0 C (ckD_get k_L_law_12 36 rfl) rfl rfl ?_
                        refine g_iload 4 C (ckD_get k_L_law_12 37 rfl) rfl ?_
                        refine g_iconst (v := (1 : Int32)) C (ckD_get k_L_law_12 38 rfl) (by decide) ?_
                        refine g_iadd C (ckD_get k_L_law_12 39 rfl) ?_
                        obtain ⟨v_210, hi_211, ev_210, hf⟩ := rdX_e hf
                        refine g_sld hX C (ckD_get k_L_law_13 0 rfl) hi_211 ev_210 ?_
                        refine g_aload_n 3 C (ckD_get k_L_law_13 1 rfl) rfl rfl ?_
                        obtain ⟨r_212, M_213, hr_214, hf⟩ := bd2_e hf
                        refine g_cSW [.ref (K.2.1.1 + 0), .int v_210, .ref (K.2.1.1 + 105)] [] C (ckD_get k_L_law_13 2 rfl) wk_L_116 (t_L_about C.tr _ _ _ hr_214) rfl rfl (Nat.le_of_ble_eq_true rfl) (by decide) ⟨by have := hcs.1; show cA + 2 ≤ _; omega, by have := hcs.2; show cB + 12 ≤ _; omega⟩ rfl ?_
                        refine g_istore (lv' := [(5, _), (0, _), (1, _), (2, _), (3, _), (4, _)]) C (ckD_get k_L_law_13 3 rfl) hL5 rfl ?_
                        refine g_aload_n 3 C (ckD_get k_L_law_13 4 rfl) rfl rfl ?_
                        refine g_aload_n 1 C (ckD_get k_L_law_13 5 rfl) rfl rfl ?_
                        refine g_iload 5 C (ckD_get k_L_law_13 6 rfl) rfl ?_
                        refine g_iconst (v := (1 : Int32)) C (ckD_get k_L_law_13 7 rfl) (by decide) ?_
                        refine g_iadd C (ckD_get k_L_law_13 8 rfl) ?_
                        obtain ⟨v_215, hi_216, ev_215, hf⟩ := rdX_e hf
                        refine g_sld hX C (ckD_get k_L_law_13 9 rfl) hi_216 ev_215 ?_
                        obtain ⟨r_219, M_218, hr_217, hf⟩ := bd2_e hf
                        refine n_cV [.int v_215] [] C (ckD_get k_L_law_13 10 rfl) vk_L_119 (t_X10_about C.tr _ _ _ hr_217) T69 rfl rfl (Nat.le_of_ble_eq_true rfl) (by decide) ⟨by have := hcs.1; show cA + 2 ≤ _; omega, by have := hcs.2; show cB + 12 ≤ _; omega⟩ rfl ?_
                        refine g_istore (lv' := [(6, _), (5, _), (0, _), (1, _), (2, _), (3, _), (4, _)]) C (ckD_get k_L_law_13 11 rfl) hL6 rfl ?_
                        refine g_aload_n 4 C (ckD_get k_L_law_13 12 rfl) rfl rfl ?_
                        refine n_cV [] [] C (ckD_get k_L_law_13 13 rfl) vk_L_86 (t_X10_thrown C.tr _ _ rfl) T69 rfl rfl (Nat.le_of_ble_eq_true rfl) (by decide) ⟨by have := hcs.1; show cA + 2 ≤ _; omega, by have := hcs.2; show cB + 12 ≤ _; omega⟩ rfl ?_
                        refine g_iload 1 C (ckD_get k_L_law_13 14 rfl) rfl ?_
                        refine g_icmp_eq C (ckD_get k_L_law_13 15 rfl) (fun c_220 => ?_) (fun c_220 => ?_)
                        · have hf := if_t hf c_220
                          refine g_iload 1 C (ckD_get k_L_law_13 18 rfl) rfl ?_
                          have hJ_904 : ∀ (_ : Unit), f_law_J904 i M_218 () = some rr → G K (cA + 2, cB + 12) 904 [(0, .ref b), (1, .ref (K.2.1.1 + 0)), (2, .ref (K.2.1.1 + 69)), (3, .ref (K.2.1.1 + 105)), (4, .int i)] [] M_218 := by
                            intro _ hf
                            unfold f_law_J904 at hf
                            refine g_goto C (ckD_get k_L_law_13 29 rfl) ?_
                            refine G.wid (cs' := (cA + 8, cB + 48)) (by show cA + 2 ≤ cA + 8; omega) (by show cB + 12 ≤ cB + 48; omega) ?_
                            exact hJ_1690 _ hf
                          refine g_if_ne C (ckD_get k_L_law_13 19 rfl) (fun c_221 => ?_) (fun c_221 => ?_)
                          · have hf := if_f hf c_221
                            refine G.sub [2, 3, 4, 5, 6] rfl ?_
                            exact hJ_904 () hf
                          · have hf := if_t hf c_221
                            refine g_aload_n 5 C (ckD_get k_L_law_13 20 rfl) rfl rfl ?_
                            refine g_iconst (v := (0 : Int32)) C (ckD_get k_L_law_13 21 rfl) (by decide) ?_
                            obtain ⟨v_222, hi_223, ev_222, hf⟩ := rdL_e hf
                            refine n_lald C (ckD_get k_L_law_13 22 rfl) T105 hi_223 ev_222 ?_
                            refine g_iload 0 C (ckD_get k_L_law_13 23 rfl) rfl ?_
                            refine g_i2l C (ckD_get k_L_law_13 24 rfl) ?_
                            refine g_lcmp C (ckD_get k_L_law_13 25 rfl) ?_
                            refine g_if_eq C (ckD_get k_L_law_13 26 rfl) (fun c_224 => ?_) (fun c_224 => ?_)
                            · have hf := if_t hf c_224
                              refine G.sub [2, 3, 4, 5, 6] rfl ?_
                              exact hJ_904 () hf
                            · have hf := if_f hf c_224
                              cases hf
                        · have hf := if_f hf c_220
                          cases hf
                      · have hf := if_f hf c_209
                        by_cases c_225 : sw_6 = (10 : Int32)
                        · have hf := if_t hf c_225
                          refine g_tabIn (t := 907) C (ckD_get k_L_law_0 24 rfl) (by rw [c_225]; decide) (by rw [c_225]; decide) (by rw [c_225] <;> rfl) (by decide) ?_
                          refine g_aload_n 1 C (ckD_get k_L_law_13 30 rfl) rfl rfl ?_
                          refine g_aload_n 0 C (ckD_get k_L_law_13 31 rfl) rfl rfl ?_
                          refine g_iload 4 C (ckD_get k_L_law_13 32 rfl) rfl ?_
                          refine g_iconst (v := (1 : Int32)) C (ckD_get k_L_law_13 33 rfl) (by decide) ?_
                          refine g_iadd C (ckD_get k_L_law_13 34 rfl) ?_
                          obtain ⟨v_226, hi_227, ev_226, hf⟩ := rdX_e hf
                          refine g_sld hX C (ckD_get k_L_law_13 35 rfl) hi_227 ev_226 ?_
                          refine g_aload_n 0 C (ckD_get k_L_law_13 36 rfl) rfl rfl ?_
                          refine g_iload 4 C (ckD_get k_L_law_13 37 rfl) rfl ?_
                          refine g_iconst (v := (2 : Int32)) C (ckD_get k_L_law_13 38 rfl) (by decide) ?_
                          refine g_iadd C (ckD_get k_L_law_13 39 rfl) ?_
                          obtain ⟨v_228, hi_229, ev_228, hf⟩ := rdX_e hf
                          refine g_sld hX C (ckD_get k_L_law_14 0 rfl) hi_229 ev_228 ?_
                          refine g_aload_n 3 C (ckD_get k_L_law_14 1 rfl) rfl rfl ?_
                          obtain ⟨r_230, M_231, hr_232, hf⟩ := bd2_e hf
                          refine g_cSW [.ref (K.2.1.1 + 0), .int v_226, .int v_228, .ref (K.2.1.1 + 105)] [] C (ckD_get k_L_law_14 2 rfl) wk_L_120 (t_L_at C.tr _ _ _ _ hr_232) rfl rfl (Nat.le_of_ble_eq_true rfl) (by decide) ⟨by have := hcs.1; show cA + 3 ≤ _; omega, by have := hcs.2; show cB + 18 ≤ _; omega⟩ rfl ?_
                          refine g_istore (lv' := [(5, _), (0, _), (1, _), (2, _), (3, _), (4, _)]) C (ckD_get k_L_law_14 3 rfl) hL5 rfl ?_
                          refine g_aload_n 3 C (ckD_get k_L_law_14 4 rfl) rfl rfl ?_
                          refine g_aload_n 1 C (ckD_get k_L_law_14 5 rfl) rfl rfl ?_
                          refine g_iload 5 C (ckD_get k_L_law_14 6 rfl) rfl ?_
                          refine g_iconst (v := (1 : Int32)) C (ckD_get k_L_law_14 7 rfl) (by decide) ?_
                          refine g_iadd C (ckD_get k_L_law_14 8 rfl) ?_
                          obtain ⟨v_233, hi_234, ev_233, hf⟩ := rdX_e hf
                          refine g_sld hX C (ckD_get k_L_law_14 9 rfl) hi_234 ev_233 ?_
                          refine g_aload_n 1 C (ckD_get k_L_law_14 10 rfl) rfl rfl ?_
                          refine g_iload 5 C (ckD_get k_L_law_14 11 rfl) rfl ?_
                          refine g_iconst (v := (2 : Int32)) C (ckD_get k_L_law_14 12 rfl) (by decide) ?_
                          refine g_iadd C (ckD_get k_L_law_14 13 rfl) ?_
                          obtain ⟨v_235, hi_236, ev_235, hf⟩ := rdX_e hf
                          refine g_sld hX C (ckD_get k_L_law_14 14 rfl) hi_236 ev_235 ?_
                          obtain ⟨r_239, M_238, hr_237, hf⟩ := bd2_e hf
                          refine n_cV [.int v_233, .int v_235] [] C (ckD_get k_L_law_14 15 rfl) vk_L_122 (t_X10_at C.tr _ _ _ _ hr_237) T69 rfl rfl (Nat.le_of_ble_eq_true rfl) (by decide) ⟨by have := hcs.1; show cA + 3 ≤ _; omega, by have := hcs.2; show cB + 18 ≤ _; omega⟩ rfl ?_
                          refine g_istore (lv' := [(6, _), (5, _), (0, _), (1, _), (2, _), (3, _), (4, _)]) C (ckD_get k_L_law_14 16 rfl) hL6 rfl ?_
                          refine g_aload_n 4 C (ckD_get k_L_law_14 17 rfl) rfl rfl ?_
                          refine n_cV [] [] C (ckD_get k_L_law_14 18 rfl) vk_L_86 (t_X10_thrown C.tr _ _ rfl) T69 rfl rfl (Nat.le_of_ble_eq_true rfl) (by decide) ⟨by have := hcs.1; show cA + 3 ≤ _; omega, by have := hcs.2; show cB + 18 ≤ _; omega⟩ rfl ?_
                          refine g_iload 1 C (ckD_get k_L_law_14 19 rfl) rfl ?_
                          refine g_icmp_eq C (ckD_get k_L_law_14 20 rfl) (fun c_240 => ?_) (fun c_240 => ?_)
                          · have hf := if_t hf c_240
                            refine g_iload 1 C (ckD_get k_L_law_14 23 rfl) rfl ?_
                            have hJ_972 : ∀ (_ : Unit), f_law_J972 i M_238 () = some rr → G K (cA + 3, cB + 18) 972 [(0, .ref b), (1, .ref (K.2.1.1 + 0)), (2, .ref (K.2.1.1 + 69)), (3, .ref (K.2.1.1 + 105)), (4, .int i)] [] M_238 := by
                              intro _ hf
                              unfold f_law_J972 at hf
                              refine g_goto C (ckD_get k_L_law_14 34 rfl) ?_
                              refine G.wid (cs' := (cA + 8, cB + 48)) (by show cA + 3 ≤ cA + 8; omega) (by show cB + 18 ≤ cB + 48; omega) ?_
                              exact hJ_1690 _ hf
                            refine g_if_ne C (ckD_get k_L_law_14 24 rfl) (fun c_241 => ?_) (fun c_241 => ?_)
                            · have hf := if_f hf c_241
                              refine G.sub [2, 3, 4, 5, 6] rfl ?_
                              exact hJ_972 () hf
                            · have hf := if_t hf c_241
                              refine g_aload_n 5 C (ckD_get k_L_law_14 25 rfl) rfl rfl ?_
                              refine g_iconst (v := (0 : Int32)) C (ckD_get k_L_law_14 26 rfl) (by decide) ?_
                              obtain ⟨v_242, hi_243, ev_242, hf⟩ := rdL_e hf
                              refine n_lald C (ckD_get k_L_law_14 27 rfl) T105 hi_243 ev_242 ?_
                              refine g_iload 0 C (ckD_get k_L_law_14 28 rfl) rfl ?_
                              refine g_i2l C (ckD_get k_L_law_14 29 rfl) ?_
                              refine g_lcmp C (ckD_get k_L_law_14 30 rfl) ?_
                              refine g_if_eq C (ckD_get k_L_law_14 31 rfl) (fun c_244 => ?_) (fun c_244 => ?_)
                              · have hf := if_t hf c_244
                                refine G.sub [2, 3, 4, 5, 6] rfl ?_
                                exact hJ_972 () hf
                              · have hf := if_f hf c_244
                                cases hf
                          · have hf := if_f hf c_240
                            cases hf
                        · have hf := if_f hf c_225
                          by_cases c_245 : sw_6 = (11 : Int32)
                          · have hf := if_t hf c_245
                            refine g_tabIn (t := 975) C (ckD_get k_L_law_0 24 rfl) (by rw [c_245]; decide) (by rw [c_245]; decide) (by rw [c_245] <;> rfl) (by decide) ?_
                            refine g_aload_n 1 C (ckD_get k_L_law_14 35 rfl) rfl rfl ?_
                            refine g_aload_n 0 C (ckD_get k_L_law_14 36 rfl) rfl rfl ?_
                            refine g_iload 4 C (ckD_get k_L_law_14 37 rfl) rfl ?_
                            refine g_iconst (v := (1 : Int32)) C (ckD_get k_L_law_14 38 rfl) (by decide) ?_
                            refine g_iadd C (ckD_get k_L_law_14 39 rfl) ?_
                            obtain ⟨v_246, hi_247, ev_246, hf⟩ := rdX_e hf
                            refine g_sld hX C (ckD_get k_L_law_15 0 rfl) hi_247 ev_246 ?_
                            refine g_aload_n 3 C (ckD_get k_L_law_15 1 rfl) rfl rfl ?_
                            obtain ⟨r_248, M_249, hr_250, hf⟩ := bd2_e hf
                            refine g_cSW [.ref (K.2.1.1 + 0), .int v_246, .ref (K.2.1.1 + 105)] [] C (ckD_get k_L_law_15 2 rfl) wk_L_123 (t_L_told C.tr _ _ _ hr_250) rfl rfl (Nat.le_of_ble_eq_true rfl) (by decide) ⟨by have := hcs.1; show cA + 1 ≤ _; omega, by have := hcs.2; show cB + 6 ≤ _; omega⟩ rfl ?_
                            refine g_istore (lv' := [(5, _), (0, _), (1, _), (2, _), (3, _), (4, _)]) C (ckD_get k_L_law_15 3 rfl) hL5 rfl ?_
                            refine g_aload_n 3 C (ckD_get k_L_law_15 4 rfl) rfl rfl ?_
                            refine g_aload_n 1 C (ckD_get k_L_law_15 5 rfl) rfl rfl ?_
                            refine g_iload 5 C (ckD_get k_L_law_15 6 rfl) rfl ?_
                            refine g_iconst (v := (1 : Int32)) C (ckD_get k_L_law_15 7 rfl) (by decide) ?_
                            refine g_iadd C (ckD_get k_L_law_15 8 rfl) ?_
                            obtain ⟨v_251, hi_252, ev_251, hf⟩ := rdX_e hf
                            refine g_sld hX C (ckD_get k_L_law_15 9 rfl) hi_252 ev_251 ?_
                            obtain ⟨r_255, M_254, hr_253, hf⟩ := bd2_e hf
                            refine n_cV [.int v_251] [] C (ckD_get k_L_law_15 10 rfl) vk_L_125 (t_X10_told C.tr _ _ _ hr_253) T69 rfl rfl (Nat.le_of_ble_eq_true rfl) (by decide) ⟨by have := hcs.1; show cA + 1 ≤ _; omega, by have := hcs.2; show cB + 6 ≤ _; omega⟩ rfl ?_
                            refine g_lstore (lv' := [(6, _), (5, _), (0, _), (1, _), (2, _), (3, _), (4, _)]) C (ckD_get k_L_law_15 11 rfl) hL7 rfl ?_
                            refine g_aload_n 4 C (ckD_get k_L_law_15 12 rfl) rfl rfl ?_
                            refine n_cV [] [] C (ckD_get k_L_law_15 13 rfl) vk_L_86 (t_X10_thrown C.tr _ _ rfl) T69 rfl rfl (Nat.le_of_ble_eq_true rfl) (by decide) ⟨by have := hcs.1; show cA + 1 ≤ _; omega, by have := hcs.2; show cB + 6 ≤ _; omega⟩ rfl ?_
                            refine g_iload 1 C (ckD_get k_L_law_15 14 rfl) rfl ?_
                            refine g_icmp_eq C (ckD_get k_L_law_15 15 rfl) (fun c_256 => ?_) (fun c_256 => ?_)
                            · have hf := if_t hf c_256
                              refine g_iload 1 C (ckD_get k_L_law_15 18 rfl) rfl ?_
                              have hJ_1027 : ∀ (_ : Unit), f_law_J1027 i M_254 () = some rr → G K (cA + 1, cB + 6) 1027 [(0, .ref b), (1, .ref (K.2.1.1 + 0)), (2, .ref (K.2.1.1 + 69)), (3, .ref (K.2.1.1 + 105)), (4, .int i)] [] M_254 := by
                                intro _ hf
                                unfold f_law_J1027 at hf
                                refine g_goto C (ckD_get k_L_law_15 28 rfl) ?_
                                refine G.wid (cs' := (cA + 8, cB + 48)) (by show cA + 1 ≤ cA + 8; omega) (by show cB + 6 ≤ cB + 48; omega) ?_
                                exact hJ_1690 _ hf
                              refine g_if_ne C (ckD_get k_L_law_15 19 rfl) (fun c_257 => ?_) (fun c_257 => ?_)
                              · have hf := if_f hf c_257
                                refine G.sub [2, 3, 4, 5, 6] rfl ?_
                                exact hJ_1027 () hf
                              · have hf := if_t hf c_257
                                refine g_aload_n 5 C (ckD_get k_L_law_15 20 rfl) rfl rfl ?_
                                refine g_iconst (v := (0 : Int32)) C (ckD_get k_L_law_15 21 rfl) (by decide) ?_
                                obtain ⟨v_258, hi_259, ev_258, hf⟩ := rdL_e hf
                                refine n_lald C (ckD_get k_L_law_15 22 rfl) T105 hi_259 ev_258 ?_
                                refine g_lload 0 C (ckD_get k_L_law_15 23 rfl) rfl ?_
                                refine g_lcmp C (ckD_get k_L_law_15 24 rfl) ?_
                                refine g_if_eq C (ckD_get k_L_law_15 25 rfl) (fun c_260 => ?_) (fun c_260 => ?_)
                                · have hf := if_t hf c_260
                                  refine G.sub [2, 3, 4, 5, 6] rfl ?_
                                  exact hJ_1027 () hf
                                · have hf := if_f hf c_260
                                  cases hf
                            · have hf := if_f hf c_256
                              cases hf
                          · have hf := if_f hf c_245
                            by_cases c_261 : sw_6 = (12 : Int32)
                            · have hf := if_t hf c_261
                              refine g_tabIn (t := 1030) C (ckD_get k_L_law_0 24 rfl) (by rw [c_261]; decide) (by rw [c_261]; decide) (by rw [c_261] <;> rfl) (by decide) ?_
                              refine g_aload_n 1 C (ckD_get k_L_law_15 29 rfl) rfl rfl ?_
                              refine g_aload_n 0 C (ckD_get k_L_law_15 30 rfl) rfl rfl ?_
                              refine g_iload 4 C (ckD_get k_L_law_15 31 rfl) rfl ?_
                              refine g_iconst (v := (1 : Int32)) C (ckD_get k_L_law_15 32 rfl) (by decide) ?_
                              refine g_iadd C (ckD_get k_L_law_15 33 rfl) ?_
                              obtain ⟨v_262, hi_263, ev_262, hf⟩ := rdX_e hf
                              refine g_sld hX C (ckD_get k_L_law_15 34 rfl) hi_263 ev_262 ?_
                              refine g_aload_n 0 C (ckD_get k_L_law_15 35 rfl) rfl rfl ?_
                              refine g_iload 4 C (ckD_get k_L_law_15 36 rfl) rfl ?_
                              refine g_iconst (v := (2 : Int32)) C (ckD_get k_L_law_15 37 rfl) (by decide) ?_
                              refine g_iadd C (ckD_get k_L_law_15 38 rfl) ?_
                              obtain ⟨v_264, hi_265, ev_264, hf⟩ := rdX_e hf
                              refine g_sld hX C (ckD_get k_L_law_15 39 rfl) hi_265 ev_264 ?_
                              refine g_aload_n 3 C (ckD_get k_L_law_16 0 rfl) rfl rfl ?_
                              obtain ⟨r_266, M_267, hr_268, hf⟩ := bd2_e hf
                              refine g_cSW [.ref (K.2.1.1 + 0), .int v_262, .int v_264, .ref (K.2.1.1 + 105)] [] C (ckD_get k_L_law_16 1 rfl) wk_L_126 (t_L_slack C.tr _ _ _ _ hr_268) rfl rfl (Nat.le_of_ble_eq_true rfl) (by decide) ⟨by have := hcs.1; show cA + 3 ≤ _; omega, by have := hcs.2; show cB + 18 ≤ _; omega⟩ rfl ?_
                              refine g_istore (lv' := [(5, _), (0, _), (1, _), (2, _), (3, _), (4, _)]) C (ckD_get k_L_law_16 2 rfl) hL5 rfl ?_
                              refine g_aload_n 3 C (ckD_get k_L_law_16 3 rfl) rfl rfl ?_
                              refine g_aload_n 1 C (ckD_get k_L_law_16 4 rfl) rfl rfl ?_
                              refine g_iload 5 C (ckD_get k_L_law_16 5 rfl) rfl ?_
                              refine g_iconst (v := (1 : Int32)) C (ckD_get k_L_law_16 6 rfl) (by decide) ?_
                              refine g_iadd C (ckD_get k_L_law_16 7 rfl) ?_
                              obtain ⟨v_269, hi_270, ev_269, hf⟩ := rdX_e hf
                              refine g_sld hX C (ckD_get k_L_law_16 8 rfl) hi_270 ev_269 ?_
                              refine g_aload_n 1 C (ckD_get k_L_law_16 9 rfl) rfl rfl ?_
                              refine g_iload 5 C (ckD_get k_L_law_16 10 rfl) rfl ?_
                              refine g_iconst (v := (2 : Int32)) C (ckD_get k_L_law_16 11 rfl) (by decide) ?_
                              refine g_iadd C (ckD_get k_L_law_16 12 rfl) ?_
                              obtain ⟨v_271, hi_272, ev_271, hf⟩ := rdX_e hf
                              refine g_sld hX C (ckD_get k_L_law_16 13 rfl) hi_272 ev_271 ?_
                              obtain ⟨r_275, M_274, hr_273, hf⟩ := bd2_e hf
                              refine n_cV [.int v_269, .int v_271] [] C (ckD_get k_L_law_16 14 rfl) vk_L_128 (t_X10_slack C.tr _ _ _ _ hr_273) T69 rfl rfl (Nat.le_of_ble_eq_true rfl) (by decide) ⟨by have := hcs.1; show cA + 3 ≤ _; omega, by have := hcs.2; show cB + 18 ≤ _; omega⟩ rfl ?_
                              refine g_istore (lv' := [(6, _), (5, _), (0, _), (1, _), (2, _), (3, _), (4, _)]) C (ckD_get k_L_law_16 15 rfl) hL6 rfl ?_
                              refine g_aload_n 4 C (ckD_get k_L_law_16 16 rfl) rfl rfl ?_
                              refine n_cV [] [] C (ckD_get k_L_law_16 17 rfl) vk_L_86 (t_X10_thrown C.tr _ _ rfl) T69 rfl rfl (Nat.le_of_ble_eq_true rfl) (by decide) ⟨by have := hcs.1; show cA + 3 ≤ _; omega, by have := hcs.2; show cB + 18 ≤ _; omega⟩ rfl ?_
                              refine g_iload 1 C (ckD_get k_L_law_16 18 rfl) rfl ?_
                              refine g_icmp_eq C (ckD_get k_L_law_16 19 rfl) (fun c_276 => ?_) (fun c_276 => ?_)
                              · have hf := if_t hf c_276
                                refine g_iload 1 C (ckD_get k_L_law_16 22 rfl) rfl ?_
                                have hJ_1095 : ∀ (_ : Unit), f_law_J1095 i M_274 () = some rr → G K (cA + 3, cB + 18) 1095 [(0, .ref b), (1, .ref (K.2.1.1 + 0)), (2, .ref (K.2.1.1 + 69)), (3, .ref (K.2.1.1 + 105)), (4, .int i)] [] M_274 := by
                                  intro _ hf
                                  unfold f_law_J1095 at hf
                                  refine g_goto C (ckD_get k_L_law_16 33 rfl) ?_
                                  refine G.wid (cs' := (cA + 8, cB + 48)) (by show cA + 3 ≤ cA + 8; omega) (by show cB + 18 ≤ cB + 48; omega) ?_
                                  exact hJ_1690 _ hf
                                refine g_if_ne C (ckD_get k_L_law_16 23 rfl) (fun c_277 => ?_) (fun c_277 => ?_)
                                · have hf := if_f hf c_277
                                  refine G.sub [2, 3, 4, 5, 6] rfl ?_
                                  exact hJ_1095 () hf
                                · have hf := if_t hf c_277
                                  refine g_aload_n 5 C (ckD_get k_L_law_16 24 rfl) rfl rfl ?_
                                  refine g_iconst (v := (0 : Int32)) C (ckD_get k_L_law_16 25 rfl) (by decide) ?_
                                  obtain ⟨v_278, hi_279, ev_278, hf⟩ := rdL_e hf
                                  refine n_lald C (ckD_get k_L_law_16 26 rfl) T105 hi_279 ev_278 ?_
                                  refine g_iload 0 C (ckD_get k_L_law_16 27 rfl) rfl ?_
                                  refine g_i2l C (ckD_get k_L_law_16 28 rfl) ?_
                                  refine g_lcmp C (ckD_get k_L_law_16 29 rfl) ?_
                                  refine g_if_eq C (ckD_get k_L_law_16 30 rfl) (fun c_280 => ?_) (fun c_280 => ?_)
                                  · have hf := if_t hf c_280
                                    refine G.sub [2, 3, 4, 5, 6] rfl ?_
                                    exact hJ_1095 () hf
                                  · have hf := if_f hf c_280
                                    cases hf
                              · have hf := if_f hf c_276
                                cases hf
                            · have hf := if_f hf c_261
                              by_cases c_281 : sw_6 = (13 : Int32)
                              · have hf := if_t hf c_281
                                refine g_tabIn (t := 1098) C (ckD_get k_L_law_0 24 rfl) (by rw [c_281]; decide) (by rw [c_281]; decide) (by rw [c_281] <;> rfl) (by decide) ?_
                                refine g_aload_n 1 C (ckD_get k_L_law_16 34 rfl) rfl rfl ?_
                                refine g_aload_n 3 C (ckD_get k_L_law_16 35 rfl) rfl rfl ?_
                                obtain ⟨r_282, M_283, hr_284, hf⟩ := bd2_e hf
                                refine g_cSW [.ref (K.2.1.1 + 0), .ref (K.2.1.1 + 105)] [] C (ckD_get k_L_law_16 36 rfl) wk_L_129 (t_L_wires C.tr  _ _ hr_284) rfl rfl (Nat.le_of_ble_eq_true rfl) (by decide) ⟨by have := hcs.1; show cA + 1 ≤ _; omega, by have := hcs.2; show cB + 6 ≤ _; omega⟩ rfl ?_
                                refine g_istore (lv' := [(5, _), (0, _), (1, _), (2, _), (3, _), (4, _)]) C (ckD_get k_L_law_16 37 rfl) hL5 rfl ?_
                                refine g_aload_n 3 C (ckD_get k_L_law_16 38 rfl) rfl rfl ?_
                                obtain ⟨r_287, M_286, hr_285, hf⟩ := bd2_e hf
                                refine n_cV [] [] C (ckD_get k_L_law_16 39 rfl) vk_L_132 (t_X10_wires C.tr _ _ hr_285) T69 rfl rfl (Nat.le_of_ble_eq_true rfl) (by decide) ⟨by have := hcs.1; show cA + 1 ≤ _; omega, by have := hcs.2; show cB + 6 ≤ _; omega⟩ rfl ?_
                                refine g_istore (lv' := [(6, _), (5, _), (0, _), (1, _), (2, _), (3, _), (4, _)]) C (ckD_get k_L_law_17 0 rfl) hL6 rfl ?_
                                refine g_aload_n 4 C (ckD_get k_L_law_17 1 rfl) rfl rfl ?_
                                refine n_cV [] [] C (ckD_get k_L_law_17 2 rfl) vk_L_86 (t_X10_thrown C.tr _ _ rfl) T69 rfl rfl (Nat.le_of_ble_eq_true rfl) (by decide) ⟨by have := hcs.1; show cA + 1 ≤ _; omega, by have := hcs.2; show cB + 6 ≤ _; omega⟩ rfl ?_
                                refine g_iload 1 C (ckD_get k_L_law_17 3 rfl) rfl ?_
                                refine g_icmp_eq C (ckD_get k_L_law_17 4 rfl) (fun c_288 => ?_) (fun c_288 => ?_)
                                · have hf := if_t hf c_288
                                  refine g_iload 1 C (ckD_get k_L_law_17 7 rfl) rfl ?_
                                  have hJ_1139 : ∀ (_ : Unit), f_law_J1139 i M_286 () = some rr → G K (cA + 1, cB + 6) 1139 [(0, .ref b), (1, .ref (K.2.1.1 + 0)), (2, .ref (K.2.1.1 + 69)), (3, .ref (K.2.1.1 + 105)), (4, .int i)] [] M_286 := by
                                    intro _ hf
                                    unfold f_law_J1139 at hf
                                    refine g_goto C (ckD_get k_L_law_17 18 rfl) ?_
                                    refine G.wid (cs' := (cA + 8, cB + 48)) (by show cA + 1 ≤ cA + 8; omega) (by show cB + 6 ≤ cB + 48; omega) ?_
                                    exact hJ_1690 _ hf
                                  refine g_if_ne C (ckD_get k_L_law_17 8 rfl) (fun c_289 => ?_) (fun c_289 => ?_)
                                  · have hf := if_f hf c_289
                                    refine G.sub [2, 3, 4, 5, 6] rfl ?_
                                    exact hJ_1139 () hf
                                  · have hf := if_t hf c_289
                                    refine g_aload_n 5 C (ckD_get k_L_law_17 9 rfl) rfl rfl ?_
                                    refine g_iconst (v := (0 : Int32)) C (ckD_get k_L_law_17 10 rfl) (by decide) ?_
                                    obtain ⟨v_290, hi_291, ev_290, hf⟩ := rdL_e hf
                                    refine n_lald C (ckD_get k_L_law_17 11 rfl) T105 hi_291 ev_290 ?_
                                    refine g_iload 0 C (ckD_get k_L_law_17 12 rfl) rfl ?_
                                    refine g_i2l C (ckD_get k_L_law_17 13 rfl) ?_
                                    refine g_lcmp C (ckD_get k_L_law_17 14 rfl) ?_
                                    refine g_if_eq C (ckD_get k_L_law_17 15 rfl) (fun c_292 => ?_) (fun c_292 => ?_)
                                    · have hf := if_t hf c_292
                                      refine G.sub [2, 3, 4, 5, 6] rfl ?_
                                      exact hJ_1139 () hf
                                    · have hf := if_f hf c_292
                                      cases hf
                                · have hf := if_f hf c_288
                                  cases hf
                              · have hf := if_f hf c_281
                                by_cases c_293 : sw_6 = (14 : Int32)
                                · have hf := if_t hf c_293
                                  refine g_tabIn (t := 1142) C (ckD_get k_L_law_0 24 rfl) (by rw [c_293]; decide) (by rw [c_293]; decide) (by rw [c_293] <;> rfl) (by decide) ?_
                                  refine g_aload_n 1 C (ckD_get k_L_law_17 19 rfl) rfl rfl ?_
                                  obtain ⟨r_296, M_295, hr_294, hf⟩ := bd2_e hf
                                  refine n_cV [] [] C (ckD_get k_L_law_17 20 rfl) vk_L_133 (t_X9_from C.tr _ _ hr_294) T0 rfl rfl (Nat.le_of_ble_eq_true rfl) (by decide) ⟨by have := hcs.1; show cA + 0 ≤ _; omega, by have := hcs.2; show cB + 0 ≤ _; omega⟩ rfl ?_
                                  refine g_aload_n 2 C (ckD_get k_L_law_17 21 rfl) rfl rfl ?_
                                  obtain ⟨r_299, M_298, hr_297, hf⟩ := bd2_e hf
                                  refine n_cV [] [.int r_296] C (ckD_get k_L_law_17 22 rfl) vk_L_136 (t_X10_from C.tr _ _ hr_297) T69 rfl rfl (Nat.le_of_ble_eq_true rfl) (by decide) ⟨by have := hcs.1; show cA + 0 ≤ _; omega, by have := hcs.2; show cB + 0 ≤ _; omega⟩ rfl ?_
                                  refine g_icmp_eq C (ckD_get k_L_law_17 23 rfl) (fun c_300 => ?_) (fun c_300 => ?_)
                                  · have hf := if_t hf c_300
                                    refine G.wid (cs' := (cA + 8, cB + 48)) (by show cA + 0 ≤ cA + 8; omega) (by show cB + 0 ≤ cB + 48; omega) ?_
                                    exact hJ_1690 _ hf
                                  · have hf := if_f hf c_300
                                    cases hf
                                · have hf := if_f hf c_293
                                  by_cases c_301 : sw_6 = (15 : Int32)
                                  · have hf := if_t hf c_301
                                    refine g_tabIn (t := 1155) C (ckD_get k_L_law_0 24 rfl) (by rw [c_301]; decide) (by rw [c_301]; decide) (by rw [c_301] <;> rfl) (by decide) ?_
                                    refine g_aload_n 1 C (ckD_get k_L_law_17 26 rfl) rfl rfl ?_
                                    refine g_aload_n 3 C (ckD_get k_L_law_17 27 rfl) rfl rfl ?_
                                    obtain ⟨r_302, M_303, hr_304, hf⟩ := bd2_e hf
                                    refine g_cSW [.ref (K.2.1.1 + 0), .ref (K.2.1.1 + 105)] [] C (ckD_get k_L_law_17 28 rfl) wk_L_137 (t_L_isCut C.tr  _ _ hr_304) rfl rfl (Nat.le_of_ble_eq_true rfl) (by decide) ⟨by have := hcs.1; show cA + 1 ≤ _; omega, by have := hcs.2; show cB + 6 ≤ _; omega⟩ rfl ?_
                                    refine g_istore (lv' := [(5, _), (0, _), (1, _), (2, _), (3, _), (4, _)]) C (ckD_get k_L_law_17 29 rfl) hL5 rfl ?_
                                    refine g_aload_n 3 C (ckD_get k_L_law_17 30 rfl) rfl rfl ?_
                                    obtain ⟨r_307, M_306, hr_305, hf⟩ := bd2_e hf
                                    refine n_cV [] [] C (ckD_get k_L_law_17 31 rfl) vk_L_139 (t_X10_isCut C.tr _ _ hr_305) T69 rfl rfl (Nat.le_of_ble_eq_true rfl) (by decide) ⟨by have := hcs.1; show cA + 1 ≤ _; omega, by have := hcs.2; show cB + 6 ≤ _; omega⟩ rfl ?_
                                    refine g_istore (lv' := [(6, _), (5, _), (0, _), (1, _), (2, _), (3, _), (4, _)]) C (ckD_get k_L_law_17 32 rfl) hL6 rfl ?_
                                    refine g_aload_n 4 C (ckD_get k_L_law_17 33 rfl) rfl rfl ?_
                                    refine n_cV [] [] C (ckD_get k_L_law_17 34 rfl) vk_L_86 (t_X10_thrown C.tr _ _ rfl) T69 rfl rfl (Nat.le_of_ble_eq_true rfl) (by decide) ⟨by have := hcs.1; show cA + 1 ≤ _; omega, by have := hcs.2; show cB + 6 ≤ _; omega⟩ rfl ?_
                                    refine g_iload 1 C (ckD_get k_L_law_17 35 rfl) rfl ?_
                                    refine g_icmp_eq C (ckD_get k_L_law_17 36 rfl) (fun c_308 => ?_) (fun c_308 => ?_)
                                    · have hf := if_t hf c_308
                                      refine g_iload 1 C (ckD_get k_L_law_17 39 rfl) rfl ?_
                                      have hJ_1203 : ∀ (_ : Unit), f_law_J1203 i M_306 () = some rr → G K (cA + 1, cB + 6) 1203 [(0, .ref b), (1, .ref (K.2.1.1 + 0)), (2, .ref (K.2.1.1 + 69)), (3, .ref (K.2.1.1 + 105)), (4, .int i)] [] M_306 := by
                                        intro _ hf
                                        unfold f_law_J1203 at hf
                                        refine g_goto C (ckD_get k_L_law_18 13 rfl) ?_
                                        refine G.wid (cs' := (cA + 8, cB + 48)) (by show cA + 1 ≤ cA + 8; omega) (by show cB + 6 ≤ cB + 48; omega) ?_
                                        exact hJ_1690 _ hf
                                      refine g_if_ne C (ckD_get k_L_law_18 0 rfl) (fun c_309 => ?_) (fun c_309 => ?_)
                                      · have hf := if_f hf c_309
                                        refine G.sub [2, 3, 4, 5, 6] rfl ?_
                                        exact hJ_1203 () hf
                                      · have hf := if_t hf c_309
                                        refine g_aload_n 5 C (ckD_get k_L_law_18 1 rfl) rfl rfl ?_
                                        refine g_iconst (v := (0 : Int32)) C (ckD_get k_L_law_18 2 rfl) (by decide) ?_
                                        obtain ⟨v_310, hi_311, ev_310, hf⟩ := rdL_e hf
                                        refine n_lald C (ckD_get k_L_law_18 3 rfl) T105 hi_311 ev_310 ?_
                                        refine g_iload 0 C (ckD_get k_L_law_18 4 rfl) rfl ?_
                                        have hJ_1197 : ∀ (s_312 : Int64), f_law_J1197 i M_306 v_310 s_312 = some rr → G K (cA + 1, cB + 6) 1197 [(0, .ref b), (1, .ref (K.2.1.1 + 0)), (2, .ref (K.2.1.1 + 69)), (3, .ref (K.2.1.1 + 105)), (4, .int i)] [.long s_312, .long v_310] M_306 := by
                                          intro s_312 hf
                                          unfold f_law_J1197 at hf
                                          refine g_lcmp C (ckD_get k_L_law_18 9 rfl) ?_
                                          refine g_if_eq C (ckD_get k_L_law_18 10 rfl) (fun c_313 => ?_) (fun c_313 => ?_)
                                          · have hf := if_t hf c_313
                                            exact hJ_1203 () hf
                                          · have hf := if_f hf c_313
                                            cases hf
                                        refine g_if_eq C (ckD_get k_L_law_18 5 rfl) (fun c_314 => ?_) (fun c_314 => ?_)
                                        · have hf := if_t hf c_314
                                          refine g_lconst (v := (0 : Int64)) C (ckD_get k_L_law_18 8 rfl) (by decide) ?_
                                          refine G.sub [2, 3, 4, 5, 6] rfl ?_
                                          exact hJ_1197 _ hf
                                        · have hf := if_f hf c_314
                                          refine g_lconst (v := (1 : Int64)) C (ckD_get k_L_law_18 6 rfl) (by decide) ?_
                                          refine g_goto C (ckD_get k_L_law_18 7 rfl) ?_
                                          refine G.sub [2, 3, 4, 5, 6] rfl ?_
                                          exact hJ_1197 _ hf
                                    · have hf := if_f hf c_308
                                      cases hf
                                  · have hf := if_f hf c_301
                                    by_cases c_315 : sw_6 = (16 : Int32)
                                    · have hf := if_t hf c_315
                                      refine g_tabIn (t := 1206) C (ckD_get k_L_law_0 24 rfl) (by rw [c_315]; decide) (by rw [c_315]; decide) (by rw [c_315] <;> rfl) (by decide) ?_
                                      refine g_aload_n 1 C (ckD_get k_L_law_18 14 rfl) rfl rfl ?_
                                      refine g_aload_n 3 C (ckD_get k_L_law_18 15 rfl) rfl rfl ?_
                                      obtain ⟨r_316, M_317, hr_318, hf⟩ := bd2_e hf
                                      refine g_cSW [.ref (K.2.1.1 + 0), .ref (K.2.1.1 + 105)] [] C (ckD_get k_L_law_18 16 rfl) wk_L_140 (t_L_normal C.tr  _ _ hr_318) rfl rfl (Nat.le_of_ble_eq_true rfl) (by decide) ⟨by have := hcs.1; show cA + 1 ≤ _; omega, by have := hcs.2; show cB + 6 ≤ _; omega⟩ rfl ?_
                                      refine g_istore (lv' := [(5, _), (0, _), (1, _), (2, _), (3, _), (4, _)]) C (ckD_get k_L_law_18 17 rfl) hL5 rfl ?_
                                      refine g_aload_n 3 C (ckD_get k_L_law_18 18 rfl) rfl rfl ?_
                                      obtain ⟨r_321, M_320, hr_319, hf⟩ := bd2_e hf
                                      refine n_cV [] [] C (ckD_get k_L_law_18 19 rfl) vk_L_142 (t_X10_normal C.tr _ _ hr_319) T69 rfl rfl (Nat.le_of_ble_eq_true rfl) (by decide) ⟨by have := hcs.1; show cA + 1 ≤ _; omega, by have := hcs.2; show cB + 6 ≤ _; omega⟩ rfl ?_
                                      refine g_istore (lv' := [(6, _), (5, _), (0, _), (1, _), (2, _), (3, _), (4, _)]) C (ckD_get k_L_law_18 20 rfl) hL6 rfl ?_
                                      refine g_aload_n 4 C (ckD_get k_L_law_18 21 rfl) rfl rfl ?_
                                      refine n_cV [] [] C (ckD_get k_L_law_18 22 rfl) vk_L_86 (t_X10_thrown C.tr _ _ rfl) T69 rfl rfl (Nat.le_of_ble_eq_true rfl) (by decide) ⟨by have := hcs.1; show cA + 1 ≤ _; omega, by have := hcs.2; show cB + 6 ≤ _; omega⟩ rfl ?_
                                      refine g_iload 1 C (ckD_get k_L_law_18 23 rfl) rfl ?_
                                      refine g_icmp_eq C (ckD_get k_L_law_18 24 rfl) (fun c_322 => ?_) (fun c_322 => ?_)
                                      · have hf := if_t hf c_322
                                        refine g_iload 1 C (ckD_get k_L_law_18 27 rfl) rfl ?_
                                        have hJ_1247 : ∀ (_ : Unit), f_law_J1247 i M_320 () = some rr → G K (cA + 1, cB + 6) 1247 [(0, .ref b), (1, .ref (K.2.1.1 + 0)), (2, .ref (K.2.1.1 + 69)), (3, .ref (K.2.1.1 + 105)), (4, .int i)] [] M_320 := by
                                          intro _ hf
                                          unfold f_law_J1247 at hf
                                          refine g_goto C (ckD_get k_L_law_18 38 rfl) ?_
                                          refine G.wid (cs' := (cA + 8, cB + 48)) (by show cA + 1 ≤ cA + 8; omega) (by show cB + 6 ≤ cB + 48; omega) ?_
                                          exact hJ_1690 _ hf
                                        refine g_if_ne C (ckD_get k_L_law_18 28 rfl) (fun c_323 => ?_) (fun c_323 => ?_)
                                        · have hf := if_f hf c_323
                                          refine G.sub [2, 3, 4, 5, 6] rfl ?_
                                          exact hJ_1247 () hf
                                        · have hf := if_t hf c_323
                                          refine g_aload_n 5 C (ckD_get k_L_law_18 29 rfl) rfl rfl ?_
                                          refine g_iconst (v := (0 : Int32)) C (ckD_get k_L_law_18 30 rfl) (by decide) ?_
                                          obtain ⟨v_324, hi_325, ev_324, hf⟩ := rdL_e hf
                                          refine n_lald C (ckD_get k_L_law_18 31 rfl) T105 hi_325 ev_324 ?_
                                          refine g_iload 0 C (ckD_get k_L_law_18 32 rfl) rfl ?_
                                          refine g_i2l C (ckD_get k_L_law_18 33 rfl) ?_
                                          refine g_lcmp C (ckD_get k_L_law_18 34 rfl) ?_
                                          refine g_if_eq C (ckD_get k_L_law_18 35 rfl) (fun c_326 => ?_) (fun c_326 => ?_)
                                          · have hf := if_t hf c_326
                                            refine G.sub [2, 3, 4, 5, 6] rfl ?_
                                            exact hJ_1247 () hf
                                          · have hf := if_f hf c_326
                                            cases hf
                                      · have hf := if_f hf c_322
                                        cases hf
                                    · have hf := if_f hf c_315
                                      by_cases c_327 : sw_6 = (17 : Int32)
                                      · have hf := if_t hf c_327
                                        refine g_tabIn (t := 1250) C (ckD_get k_L_law_0 24 rfl) (by rw [c_327]; decide) (by rw [c_327]; decide) (by rw [c_327] <;> rfl) (by decide) ?_
                                        refine g_aload_n 1 C (ckD_get k_L_law_18 39 rfl) rfl rfl ?_
                                        refine g_aload_n 3 C (ckD_get k_L_law_19 0 rfl) rfl rfl ?_
                                        obtain ⟨r_328, M_329, hr_330, hf⟩ := bd2_e hf
                                        refine g_cSW [.ref (K.2.1.1 + 0), .ref (K.2.1.1 + 105)] [] C (ckD_get k_L_law_19 1 rfl) wk_L_143 (t_L_curve C.tr  _ _ hr_330) rfl rfl (Nat.le_of_ble_eq_true rfl) (by decide) ⟨by have := hcs.1; show cA + 1 ≤ _; omega, by have := hcs.2; show cB + 6 ≤ _; omega⟩ rfl ?_
                                        refine g_istore (lv' := [(5, _), (0, _), (1, _), (2, _), (3, _), (4, _)]) C (ckD_get k_L_law_19 2 rfl) hL5 rfl ?_
                                        refine g_aload_n 3 C (ckD_get k_L_law_19 3 rfl) rfl rfl ?_
                                        obtain ⟨r_333, M_332, hr_331, hf⟩ := bd2_e hf
                                        refine n_cV [] [] C (ckD_get k_L_law_19 4 rfl) vk_L_145 (t_X10_curve C.tr _ _ hr_331) T69 rfl rfl (Nat.le_of_ble_eq_true rfl) (by decide) ⟨by have := hcs.1; show cA + 1 ≤ _; omega, by have := hcs.2; show cB + 6 ≤ _; omega⟩ rfl ?_
                                        refine g_istore (lv' := [(6, _), (5, _), (0, _), (1, _), (2, _), (3, _), (4, _)]) C (ckD_get k_L_law_19 5 rfl) hL6 rfl ?_
                                        refine g_aload_n 4 C (ckD_get k_L_law_19 6 rfl) rfl rfl ?_
                                        refine n_cV [] [] C (ckD_get k_L_law_19 7 rfl) vk_L_86 (t_X10_thrown C.tr _ _ rfl) T69 rfl rfl (Nat.le_of_ble_eq_true rfl) (by decide) ⟨by have := hcs.1; show cA + 1 ≤ _; omega, by have := hcs.2; show cB + 6 ≤ _; omega⟩ rfl ?_
                                        refine g_iload 1 C (ckD_get k_L_law_19 8 rfl) rfl ?_
                                        refine g_icmp_eq C (ckD_get k_L_law_19 9 rfl) (fun c_334 => ?_) (fun c_334 => ?_)
                                        · have hf := if_t hf c_334
                                          refine g_iload 1 C (ckD_get k_L_law_19 12 rfl) rfl ?_
                                          have hJ_1291 : ∀ (_ : Unit), f_law_J1291 i M_332 () = some rr → G K (cA + 1, cB + 6) 1291 [(0, .ref b), (1, .ref (K.2.1.1 + 0)), (2, .ref (K.2.1.1 + 69)), (3, .ref (K.2.1.1 + 105)), (4, .int i)] [] M_332 := by
                                            intro _ hf
                                            unfold f_law_J1291 at hf
                                            refine g_goto C (ckD_get k_L_law_19 23 rfl) ?_
                                            refine G.wid (cs' := (cA + 8, cB + 48)) (by show cA + 1 ≤ cA + 8; omega) (by show cB + 6 ≤ cB + 48; omega) ?_
                                            exact hJ_1690 _ hf
                                          refine g_if_ne C (ckD_get k_L_law_19 13 rfl) (fun c_335 => ?_) (fun c_335 => ?_)
                                          · have hf := if_f hf c_335
                                            refine G.sub [2, 3, 4, 5, 6] rfl ?_
                                            exact hJ_1291 () hf
                                          · have hf := if_t hf c_335
                                            refine g_aload_n 5 C (ckD_get k_L_law_19 14 rfl) rfl rfl ?_
                                            refine g_iconst (v := (0 : Int32)) C (ckD_get k_L_law_19 15 rfl) (by decide) ?_
                                            obtain ⟨v_336, hi_337, ev_336, hf⟩ := rdL_e hf
                                            refine n_lald C (ckD_get k_L_law_19 16 rfl) T105 hi_337 ev_336 ?_
                                            refine g_iload 0 C (ckD_get k_L_law_19 17 rfl) rfl ?_
                                            refine g_i2l C (ckD_get k_L_law_19 18 rfl) ?_
                                            refine g_lcmp C (ckD_get k_L_law_19 19 rfl) ?_
                                            refine g_if_eq C (ckD_get k_L_law_19 20 rfl) (fun c_338 => ?_) (fun c_338 => ?_)
                                            · have hf := if_t hf c_338
                                              refine G.sub [2, 3, 4, 5, 6] rfl ?_
                                              exact hJ_1291 () hf
                                            · have hf := if_f hf c_338
                                              cases hf
                                        · have hf := if_f hf c_334
                                          cases hf
                                      · have hf := if_f hf c_327
                                        by_cases c_339 : sw_6 = (18 : Int32)
                                        · have hf := if_t hf c_339
                                          refine g_tabIn (t := 1294) C (ckD_get k_L_law_0 24 rfl) (by rw [c_339]; decide) (by rw [c_339]; decide) (by rw [c_339] <;> rfl) (by decide) ?_
                                          refine g_aload_n 1 C (ckD_get k_L_law_19 24 rfl) rfl rfl ?_
                                          refine g_aload_n 0 C (ckD_get k_L_law_19 25 rfl) rfl rfl ?_
                                          refine g_iload 4 C (ckD_get k_L_law_19 26 rfl) rfl ?_
                                          refine g_iconst (v := (1 : Int32)) C (ckD_get k_L_law_19 27 rfl) (by decide) ?_
                                          refine g_iadd C (ckD_get k_L_law_19 28 rfl) ?_
                                          obtain ⟨v_340, hi_341, ev_340, hf⟩ := rdX_e hf
                                          refine g_sld hX C (ckD_get k_L_law_19 29 rfl) hi_341 ev_340 ?_
                                          refine g_aload_n 0 C (ckD_get k_L_law_19 30 rfl) rfl rfl ?_
                                          refine g_iload 4 C (ckD_get k_L_law_19 31 rfl) rfl ?_
                                          refine g_iconst (v := (2 : Int32)) C (ckD_get k_L_law_19 32 rfl) (by decide) ?_
                                          refine g_iadd C (ckD_get k_L_law_19 33 rfl) ?_
                                          obtain ⟨v_342, hi_343, ev_342, hf⟩ := rdX_e hf
                                          refine g_sld hX C (ckD_get k_L_law_19 34 rfl) hi_343 ev_342 ?_
                                          refine g_aload_n 3 C (ckD_get k_L_law_19 35 rfl) rfl rfl ?_
                                          obtain ⟨r_344, M_345, hr_346, hf⟩ := bd2_e hf
                                          refine g_cSW [.ref (K.2.1.1 + 0), .int v_340, .int v_342, .ref (K.2.1.1 + 105)] [] C (ckD_get k_L_law_19 36 rfl) wk_L_146 (t_L_shape C.tr _ _ _ _ hr_346) rfl rfl (Nat.le_of_ble_eq_true rfl) (by decide) ⟨by have := hcs.1; show cA + 3 ≤ _; omega, by have := hcs.2; show cB + 18 ≤ _; omega⟩ rfl ?_
                                          refine g_istore (lv' := [(5, _), (0, _), (1, _), (2, _), (3, _), (4, _)]) C (ckD_get k_L_law_19 37 rfl) hL5 rfl ?_
                                          refine g_aload_n 3 C (ckD_get k_L_law_19 38 rfl) rfl rfl ?_
                                          refine g_aload_n 1 C (ckD_get k_L_law_19 39 rfl) rfl rfl ?_
                                          refine g_iload 5 C (ckD_get k_L_law_20 0 rfl) rfl ?_
                                          refine g_iconst (v := (1 : Int32)) C (ckD_get k_L_law_20 1 rfl) (by decide) ?_
                                          refine g_iadd C (ckD_get k_L_law_20 2 rfl) ?_
                                          obtain ⟨v_347, hi_348, ev_347, hf⟩ := rdX_e hf
                                          refine g_sld hX C (ckD_get k_L_law_20 3 rfl) hi_348 ev_347 ?_
                                          refine g_aload_n 1 C (ckD_get k_L_law_20 4 rfl) rfl rfl ?_
                                          refine g_iload 5 C (ckD_get k_L_law_20 5 rfl) rfl ?_
                                          refine g_iconst (v := (2 : Int32)) C (ckD_get k_L_law_20 6 rfl) (by decide) ?_
                                          refine g_iadd C (ckD_get k_L_law_20 7 rfl) ?_
                                          obtain ⟨v_349, hi_350, ev_349, hf⟩ := rdX_e hf
                                          refine g_sld hX C (ckD_get k_L_law_20 8 rfl) hi_350 ev_349 ?_
                                          obtain ⟨r_353, M_352, hr_351, hf⟩ := bd2_e hf
                                          refine n_cV [.int v_347, .int v_349] [] C (ckD_get k_L_law_20 9 rfl) vk_L_148 (t_X10_shape C.tr _ _ _ _ hr_351) T69 rfl rfl (Nat.le_of_ble_eq_true rfl) (by decide) ⟨by have := hcs.1; show cA + 3 ≤ _; omega, by have := hcs.2; show cB + 18 ≤ _; omega⟩ rfl ?_
                                          refine g_istore (lv' := [(6, _), (5, _), (0, _), (1, _), (2, _), (3, _), (4, _)]) C (ckD_get k_L_law_20 10 rfl) hL6 rfl ?_
                                          refine g_aload_n 4 C (ckD_get k_L_law_20 11 rfl) rfl rfl ?_
                                          refine n_cV [] [] C (ckD_get k_L_law_20 12 rfl) vk_L_86 (t_X10_thrown C.tr _ _ rfl) T69 rfl rfl (Nat.le_of_ble_eq_true rfl) (by decide) ⟨by have := hcs.1; show cA + 3 ≤ _; omega, by have := hcs.2; show cB + 18 ≤ _; omega⟩ rfl ?_
                                          refine g_iload 1 C (ckD_get k_L_law_20 13 rfl) rfl ?_
                                          refine g_icmp_eq C (ckD_get k_L_law_20 14 rfl) (fun c_354 => ?_) (fun c_354 => ?_)
                                          · have hf := if_t hf c_354
                                            refine g_iload 1 C (ckD_get k_L_law_20 17 rfl) rfl ?_
                                            have hJ_1359 : ∀ (_ : Unit), f_law_J1359 i M_352 () = some rr → G K (cA + 3, cB + 18) 1359 [(0, .ref b), (1, .ref (K.2.1.1 + 0)), (2, .ref (K.2.1.1 + 69)), (3, .ref (K.2.1.1 + 105)), (4, .int i)] [] M_352 := by
                                              intro _ hf
                                              unfold f_law_J1359 at hf
                                              refine g_goto C (ckD_get k_L_law_20 28 rfl) ?_
                                              refine G.wid (cs' := (cA + 8, cB + 48)) (by show cA + 3 ≤ cA + 8; omega) (by show cB + 18 ≤ cB + 48; omega) ?_
                                              exact hJ_1690 _ hf
                                            refine g_if_ne C (ckD_get k_L_law_20 18 rfl) (fun c_355 => ?_) (fun c_355 => ?_)
                                            · have hf := if_f hf c_355
                                              refine G.sub [2, 3, 4, 5, 6] rfl ?_
                                              exact hJ_1359 () hf
                                            · have hf := if_t hf c_355
                                              refine g_aload_n 5 C (ckD_get k_L_law_20 19 rfl) rfl rfl ?_
                                              refine g_iconst (v := (0 : Int32)) C (ckD_get k_L_law_20 20 rfl) (by decide) ?_
                                              obtain ⟨v_356, hi_357, ev_356, hf⟩ := rdL_e hf
                                              refine n_lald C (ckD_get k_L_law_20 21 rfl) T105 hi_357 ev_356 ?_
                                              refine g_iload 0 C (ckD_get k_L_law_20 22 rfl) rfl ?_
                                              refine g_i2l C (ckD_get k_L_law_20 23 rfl) ?_
                                              refine g_lcmp C (ckD_get k_L_law_20 24 rfl) ?_
                                              refine g_if_eq C (ckD_get k_L_law_20 25 rfl) (fun c_358 => ?_) (fun c_358 => ?_)
                                              · have hf := if_t hf c_358
                                                refine G.sub [2, 3, 4, 5, 6] rfl ?_
                                                exact hJ_1359 () hf
                                              · have hf := if_f hf c_358
                                                cases hf
                                          · have hf := if_f hf c_354
                                            cases hf
                                        · have hf := if_f hf c_339
                                          by_cases c_359 : sw_6 = (19 : Int32)
                                          · have hf := if_t hf c_359
                                            refine g_tabIn (t := 1362) C (ckD_get k_L_law_0 24 rfl) (by rw [c_359]; decide) (by rw [c_359]; decide) (by rw [c_359] <;> rfl) (by decide) ?_
                                            refine g_aload_n 1 C (ckD_get k_L_law_20 29 rfl) rfl rfl ?_
                                            refine g_aload_n 0 C (ckD_get k_L_law_20 30 rfl) rfl rfl ?_
                                            refine g_iload 4 C (ckD_get k_L_law_20 31 rfl) rfl ?_
                                            refine g_iconst (v := (1 : Int32)) C (ckD_get k_L_law_20 32 rfl) (by decide) ?_
                                            refine g_iadd C (ckD_get k_L_law_20 33 rfl) ?_
                                            obtain ⟨v_360, hi_361, ev_360, hf⟩ := rdX_e hf
                                            refine g_sld hX C (ckD_get k_L_law_20 34 rfl) hi_361 ev_360 ?_
                                            refine g_aload_n 3 C (ckD_get k_L_law_20 35 rfl) rfl rfl ?_
                                            obtain ⟨r_362, M_363, hr_364, hf⟩ := bd2_e hf
                                            refine g_cSW [.ref (K.2.1.1 + 0), .int v_360, .ref (K.2.1.1 + 105)] [] C (ckD_get k_L_law_20 36 rfl) wk_L_149 (t_L_best C.tr _ _ _ hr_364) rfl rfl (Nat.le_of_ble_eq_true rfl) (by decide) ⟨by have := hcs.1; show cA + 2 ≤ _; omega, by have := hcs.2; show cB + 12 ≤ _; omega⟩ rfl ?_
                                            refine g_istore (lv' := [(5, _), (0, _), (1, _), (2, _), (3, _), (4, _)]) C (ckD_get k_L_law_20 37 rfl) hL5 rfl ?_
                                            refine g_aload_n 3 C (ckD_get k_L_law_20 38 rfl) rfl rfl ?_
                                            refine g_aload_n 1 C (ckD_get k_L_law_20 39 rfl) rfl rfl ?_
                                            refine g_iload 5 C (ckD_get k_L_law_21 0 rfl) rfl ?_
                                            refine g_iconst (v := (1 : Int32)) C (ckD_get k_L_law_21 1 rfl) (by decide) ?_
                                            refine g_iadd C (ckD_get k_L_law_21 2 rfl) ?_
                                            obtain ⟨v_365, hi_366, ev_365, hf⟩ := rdX_e hf
                                            refine g_sld hX C (ckD_get k_L_law_21 3 rfl) hi_366 ev_365 ?_
                                            obtain ⟨r_369, M_368, hr_367, hf⟩ := bd2_e hf
                                            refine n_cV [.int v_365] [] C (ckD_get k_L_law_21 4 rfl) vk_L_151 (t_X10_best C.tr _ _ _ hr_367) T69 rfl rfl (Nat.le_of_ble_eq_true rfl) (by decide) ⟨by have := hcs.1; show cA + 2 ≤ _; omega, by have := hcs.2; show cB + 12 ≤ _; omega⟩ rfl ?_
                                            refine g_istore (lv' := [(6, _), (5, _), (0, _), (1, _), (2, _), (3, _), (4, _)]) C (ckD_get k_L_law_21 5 rfl) hL6 rfl ?_
                                            refine g_aload_n 4 C (ckD_get k_L_law_21 6 rfl) rfl rfl ?_
                                            refine n_cV [] [] C (ckD_get k_L_law_21 7 rfl) vk_L_86 (t_X10_thrown C.tr _ _ rfl) T69 rfl rfl (Nat.le_of_ble_eq_true rfl) (by decide) ⟨by have := hcs.1; show cA + 2 ≤ _; omega, by have := hcs.2; show cB + 12 ≤ _; omega⟩ rfl ?_
                                            refine g_iload 1 C (ckD_get k_L_law_21 8 rfl) rfl ?_
                                            refine g_icmp_eq C (ckD_get k_L_law_21 9 rfl) (fun c_370 => ?_) (fun c_370 => ?_)
                                            · have hf := if_t hf c_370
                                              refine g_iload 1 C (ckD_get k_L_law_21 12 rfl) rfl ?_
                                              have hJ_1415 : ∀ (_ : Unit), f_law_J1415 i M_368 () = some rr → G K (cA + 2, cB + 12) 1415 [(0, .ref b), (1, .ref (K.2.1.1 + 0)), (2, .ref (K.2.1.1 + 69)), (3, .ref (K.2.1.1 + 105)), (4, .int i)] [] M_368 := by
                                                intro _ hf
                                                unfold f_law_J1415 at hf
                                                refine g_goto C (ckD_get k_L_law_21 23 rfl) ?_
                                                refine G.wid (cs' := (cA + 8, cB + 48)) (by show cA + 2 ≤ cA + 8; omega) (by show cB + 12 ≤ cB + 48; omega) ?_
                                                exact hJ_1690 _ hf
                                              refine g_if_ne C (ckD_get k_L_law_21 13 rfl) (fun c_371 => ?_) (fun c_371 => ?_)
                                              · have hf := if_f hf c_371
                                                refine G.sub [2, 3, 4, 5, 6] rfl ?_
                                                exact hJ_1415 () hf
                                              · have hf := if_t hf c_371
                                                refine g_aload_n 5 C (ckD_get k_L_law_21 14 rfl) rfl rfl ?_
                                                refine g_iconst (v := (0 : Int32)) C (ckD_get k_L_law_21 15 rfl) (by decide) ?_
                                                obtain ⟨v_372, hi_373, ev_372, hf⟩ := rdL_e hf
                                                refine n_lald C (ckD_get k_L_law_21 16 rfl) T105 hi_373 ev_372 ?_
                                                refine g_iload 0 C (ckD_get k_L_law_21 17 rfl) rfl ?_
                                                refine g_i2l C (ckD_get k_L_law_21 18 rfl) ?_
                                                refine g_lcmp C (ckD_get k_L_law_21 19 rfl) ?_
                                                refine g_if_eq C (ckD_get k_L_law_21 20 rfl) (fun c_374 => ?_) (fun c_374 => ?_)
                                                · have hf := if_t hf c_374
                                                  refine G.sub [2, 3, 4, 5, 6] rfl ?_
                                                  exact hJ_1415 () hf
                                                · have hf := if_f hf c_374
                                                  cases hf
                                            · have hf := if_f hf c_370
                                              cases hf
                                          · have hf := if_f hf c_359
                                            by_cases c_375 : sw_6 = (20 : Int32)
                                            · have hf := if_t hf c_375
                                              refine g_tabIn (t := 1418) C (ckD_get k_L_law_0 24 rfl) (by rw [c_375]; decide) (by rw [c_375]; decide) (by rw [c_375] <;> rfl) (by decide) ?_
                                              refine g_aload_n 1 C (ckD_get k_L_law_21 24 rfl) rfl rfl ?_
                                              refine g_aload_n 0 C (ckD_get k_L_law_21 25 rfl) rfl rfl ?_
                                              refine g_iload 4 C (ckD_get k_L_law_21 26 rfl) rfl ?_
                                              refine g_iconst (v := (1 : Int32)) C (ckD_get k_L_law_21 27 rfl) (by decide) ?_
                                              refine g_iadd C (ckD_get k_L_law_21 28 rfl) ?_
                                              obtain ⟨v_376, hi_377, ev_376, hf⟩ := rdX_e hf
                                              refine g_sld hX C (ckD_get k_L_law_21 29 rfl) hi_377 ev_376 ?_
                                              refine g_aload_n 0 C (ckD_get k_L_law_21 30 rfl) rfl rfl ?_
                                              refine g_iload 4 C (ckD_get k_L_law_21 31 rfl) rfl ?_
                                              refine g_iconst (v := (2 : Int32)) C (ckD_get k_L_law_21 32 rfl) (by decide) ?_
                                              refine g_iadd C (ckD_get k_L_law_21 33 rfl) ?_
                                              obtain ⟨v_378, hi_379, ev_378, hf⟩ := rdX_e hf
                                              refine g_sld hX C (ckD_get k_L_law_21 34 rfl) hi_379 ev_378 ?_
                                              refine g_aload_n 0 C (ckD_get k_L_law_21 35 rfl) rfl rfl ?_
                                              refine g_iload 4 C (ckD_get k_L_law_21 36 rfl) rfl ?_
                                              refine g_iconst (v := (3 : Int32)) C (ckD_get k_L_law_21 37 rfl) (by decide) ?_
                                              refine g_iadd C (ckD_get k_L_law_21 38 rfl) ?_
                                              obtain ⟨v_380, hi_381, ev_380, hf⟩ := rdX_e hf
                                              refine g_sld hX C (ckD_get k_L_law_21 39 rfl) hi_381 ev_380 ?_
                                              obtain ⟨r_384, M_383, hr_382, hf⟩ := bd2_e hf
                                              refine n_cV [.int v_376, .int v_378, .int v_380] [] C (ckD_get k_L_law_22 0 rfl) vk_L_152 (t_X9_swap C.tr _ _ _ _ _ hr_382) T0 rfl rfl (Nat.le_of_ble_eq_true rfl) (by decide) ⟨by have := hcs.1; show cA + 0 ≤ _; omega, by have := hcs.2; show cB + 0 ≤ _; omega⟩ rfl ?_
                                              refine g_aload_n 2 C (ckD_get k_L_law_22 1 rfl) rfl rfl ?_
                                              refine g_aload_n 0 C (ckD_get k_L_law_22 2 rfl) rfl rfl ?_
                                              refine g_iload 4 C (ckD_get k_L_law_22 3 rfl) rfl ?_
                                              refine g_iconst (v := (1 : Int32)) C (ckD_get k_L_law_22 4 rfl) (by decide) ?_
                                              refine g_iadd C (ckD_get k_L_law_22 5 rfl) ?_
                                              obtain ⟨v_385, hi_386, ev_385, hf⟩ := rdX_e hf
                                              refine g_sld hX C (ckD_get k_L_law_22 6 rfl) hi_386 ev_385 ?_
                                              refine g_aload_n 0 C (ckD_get k_L_law_22 7 rfl) rfl rfl ?_
                                              refine g_iload 4 C (ckD_get k_L_law_22 8 rfl) rfl ?_
                                              refine g_iconst (v := (2 : Int32)) C (ckD_get k_L_law_22 9 rfl) (by decide) ?_
                                              refine g_iadd C (ckD_get k_L_law_22 10 rfl) ?_
                                              obtain ⟨v_387, hi_388, ev_387, hf⟩ := rdX_e hf
                                              refine g_sld hX C (ckD_get k_L_law_22 11 rfl) hi_388 ev_387 ?_
                                              refine g_aload_n 0 C (ckD_get k_L_law_22 12 rfl) rfl rfl ?_
                                              refine g_iload 4 C (ckD_get k_L_law_22 13 rfl) rfl ?_
                                              refine g_iconst (v := (3 : Int32)) C (ckD_get k_L_law_22 14 rfl) (by decide) ?_
                                              refine g_iadd C (ckD_get k_L_law_22 15 rfl) ?_
                                              obtain ⟨v_389, hi_390, ev_389, hf⟩ := rdX_e hf
                                              refine g_sld hX C (ckD_get k_L_law_22 16 rfl) hi_390 ev_389 ?_
                                              obtain ⟨r_393, M_392, hr_391, hf⟩ := bd2_e hf
                                              refine n_cV [.int v_385, .int v_387, .int v_389] [.int r_384] C (ckD_get k_L_law_22 17 rfl) vk_L_156 (t_X10_swap C.tr _ _ _ _ _ hr_391) T69 rfl rfl (Nat.le_of_ble_eq_true rfl) (by decide) ⟨by have := hcs.1; show cA + 0 ≤ _; omega, by have := hcs.2; show cB + 0 ≤ _; omega⟩ rfl ?_
                                              refine g_icmp_eq C (ckD_get k_L_law_22 18 rfl) (fun c_394 => ?_) (fun c_394 => ?_)
                                              · have hf := if_t hf c_394
                                                refine G.wid (cs' := (cA + 8, cB + 48)) (by show cA + 0 ≤ cA + 8; omega) (by show cB + 0 ≤ cB + 48; omega) ?_
                                                exact hJ_1690 _ hf
                                              · have hf := if_f hf c_394
                                                cases hf
                                            · have hf := if_f hf c_375
                                              by_cases c_395 : sw_6 = (21 : Int32)
                                              · have hf := if_t hf c_395
                                                refine g_tabIn (t := 1467) C (ckD_get k_L_law_0 24 rfl) (by rw [c_395]; decide) (by rw [c_395]; decide) (by rw [c_395] <;> rfl) (by decide) ?_
                                                refine g_aload_n 1 C (ckD_get k_L_law_22 21 rfl) rfl rfl ?_
                                                refine g_aload_n 0 C (ckD_get k_L_law_22 22 rfl) rfl rfl ?_
                                                refine g_iload 4 C (ckD_get k_L_law_22 23 rfl) rfl ?_
                                                refine g_iconst (v := (1 : Int32)) C (ckD_get k_L_law_22 24 rfl) (by decide) ?_
                                                refine g_iadd C (ckD_get k_L_law_22 25 rfl) ?_
                                                obtain ⟨v_396, hi_397, ev_396, hf⟩ := rdX_e hf
                                                refine g_sld hX C (ckD_get k_L_law_22 26 rfl) hi_397 ev_396 ?_
                                                refine g_aload_n 3 C (ckD_get k_L_law_22 27 rfl) rfl rfl ?_
                                                obtain ⟨r_398, M_399, hr_400, hf⟩ := bd2_e hf
                                                refine g_cSW [.ref (K.2.1.1 + 0), .int v_396, .ref (K.2.1.1 + 105)] [] C (ckD_get k_L_law_22 28 rfl) wk_L_157 (t_L_least C.tr _ _ _ hr_400) rfl rfl (Nat.le_of_ble_eq_true rfl) (by decide) ⟨by have := hcs.1; show cA + 1 ≤ _; omega, by have := hcs.2; show cB + 6 ≤ _; omega⟩ rfl ?_
                                                refine g_istore (lv' := [(5, _), (0, _), (1, _), (2, _), (3, _), (4, _)]) C (ckD_get k_L_law_22 29 rfl) hL5 rfl ?_
                                                refine g_aload_n 3 C (ckD_get k_L_law_22 30 rfl) rfl rfl ?_
                                                refine g_aload_n 1 C (ckD_get k_L_law_22 31 rfl) rfl rfl ?_
                                                refine g_iload 5 C (ckD_get k_L_law_22 32 rfl) rfl ?_
                                                refine g_iconst (v := (1 : Int32)) C (ckD_get k_L_law_22 33 rfl) (by decide) ?_
                                                refine g_iadd C (ckD_get k_L_law_22 34 rfl) ?_
                                                obtain ⟨v_401, hi_402, ev_401, hf⟩ := rdX_e hf
                                                refine g_sld hX C (ckD_get k_L_law_22 35 rfl) hi_402 ev_401 ?_
                                                obtain ⟨r_405, M_404, hr_403, hf⟩ := bd2_e hf
                                                refine n_cV [.int v_401] [] C (ckD_get k_L_law_22 36 rfl) vk_L_159 (t_X10_least C.tr _ _ _ hr_403) T69 rfl rfl (Nat.le_of_ble_eq_true rfl) (by decide) ⟨by have := hcs.1; show cA + 1 ≤ _; omega, by have := hcs.2; show cB + 6 ≤ _; omega⟩ rfl ?_
                                                refine g_istore (lv' := [(6, _), (5, _), (0, _), (1, _), (2, _), (3, _), (4, _)]) C (ckD_get k_L_law_22 37 rfl) hL6 rfl ?_
                                                refine g_aload_n 4 C (ckD_get k_L_law_22 38 rfl) rfl rfl ?_
                                                refine n_cV [] [] C (ckD_get k_L_law_22 39 rfl) vk_L_86 (t_X10_thrown C.tr _ _ rfl) T69 rfl rfl (Nat.le_of_ble_eq_true rfl) (by decide) ⟨by have := hcs.1; show cA + 1 ≤ _; omega, by have := hcs.2; show cB + 6 ≤ _; omega⟩ rfl ?_
                                                refine g_iload 1 C (ckD_get k_L_law_23 0 rfl) rfl ?_
                                                refine g_icmp_eq C (ckD_get k_L_law_23 1 rfl) (fun c_406 => ?_) (fun c_406 => ?_)
                                                · have hf := if_t hf c_406
                                                  refine g_iload 1 C (ckD_get k_L_law_23 4 rfl) rfl ?_
                                                  have hJ_1520 : ∀ (_ : Unit), f_law_J1520 i M_404 () = some rr → G K (cA + 1, cB + 6) 1520 [(0, .ref b), (1, .ref (K.2.1.1 + 0)), (2, .ref (K.2.1.1 + 69)), (3, .ref (K.2.1.1 + 105)), (4, .int i)] [] M_404 := by
                                                    intro _ hf
                                                    unfold f_law_J1520 at hf
                                                    refine g_goto C (ckD_get k_L_law_23 15 rfl) ?_
                                                    refine G.wid (cs' := (cA + 8, cB + 48)) (by show cA + 1 ≤ cA + 8; omega) (by show cB + 6 ≤ cB + 48; omega) ?_
                                                    exact hJ_1690 _ hf
                                                  refine g_if_ne C (ckD_get k_L_law_23 5 rfl) (fun c_407 => ?_) (fun c_407 => ?_)
                                                  · have hf := if_f hf c_407
                                                    refine G.sub [2, 3, 4, 5, 6] rfl ?_
                                                    exact hJ_1520 () hf
                                                  · have hf := if_t hf c_407
                                                    refine g_aload_n 5 C (ckD_get k_L_law_23 6 rfl) rfl rfl ?_
                                                    refine g_iconst (v := (0 : Int32)) C (ckD_get k_L_law_23 7 rfl) (by decide) ?_
                                                    obtain ⟨v_408, hi_409, ev_408, hf⟩ := rdL_e hf
                                                    refine n_lald C (ckD_get k_L_law_23 8 rfl) T105 hi_409 ev_408 ?_
                                                    refine g_iload 0 C (ckD_get k_L_law_23 9 rfl) rfl ?_
                                                    refine g_i2l C (ckD_get k_L_law_23 10 rfl) ?_
                                                    refine g_lcmp C (ckD_get k_L_law_23 11 rfl) ?_
                                                    refine g_if_eq C (ckD_get k_L_law_23 12 rfl) (fun c_410 => ?_) (fun c_410 => ?_)
                                                    · have hf := if_t hf c_410
                                                      refine G.sub [2, 3, 4, 5, 6] rfl ?_
                                                      exact hJ_1520 () hf
                                                    · have hf := if_f hf c_410
                                                      cases hf
                                                · have hf := if_f hf c_406
                                                  cases hf
                                              · have hf := if_f hf c_395
                                                by_cases c_411 : sw_6 = (22 : Int32)
                                                · have hf := if_t hf c_411
                                                  refine g_tabIn (t := 1523) C (ckD_get k_L_law_0 24 rfl) (by rw [c_411]; decide) (by rw [c_411]; decide) (by rw [c_411] <;> rfl) (by decide) ?_
                                                  refine g_aload_n 1 C (ckD_get k_L_law_23 16 rfl) rfl rfl ?_
                                                  refine g_aload_n 0 C (ckD_get k_L_law_23 17 rfl) rfl rfl ?_
                                                  refine g_iload 4 C (ckD_get k_L_law_23 18 rfl) rfl ?_
                                                  refine g_iconst (v := (1 : Int32)) C (ckD_get k_L_law_23 19 rfl) (by decide) ?_
                                                  refine g_iadd C (ckD_get k_L_law_23 20 rfl) ?_
                                                  obtain ⟨v_412, hi_413, ev_412, hf⟩ := rdX_e hf
                                                  refine g_sld hX C (ckD_get k_L_law_23 21 rfl) hi_413 ev_412 ?_
                                                  refine g_aload_n 0 C (ckD_get k_L_law_23 22 rfl) rfl rfl ?_
                                                  refine g_iload 4 C (ckD_get k_L_law_23 23 rfl) rfl ?_
                                                  refine g_iconst (v := (2 : Int32)) C (ckD_get k_L_law_23 24 rfl) (by decide) ?_
                                                  refine g_iadd C (ckD_get k_L_law_23 25 rfl) ?_
                                                  obtain ⟨v_414, hi_415, ev_414, hf⟩ := rdX_e hf
                                                  refine g_sld hX C (ckD_get k_L_law_23 26 rfl) hi_415 ev_414 ?_
                                                  refine g_aload_n 3 C (ckD_get k_L_law_23 27 rfl) rfl rfl ?_
                                                  obtain ⟨r_416, M_417, hr_418, hf⟩ := bd2_e hf
                                                  refine g_cSW [.ref (K.2.1.1 + 0), .int v_412, .int v_414, .ref (K.2.1.1 + 105)] [] C (ckD_get k_L_law_23 28 rfl) wk_L_160 (t_L_count C.tr _ _ _ _ hr_418) rfl rfl (Nat.le_of_ble_eq_true rfl) (by decide) ⟨by have := hcs.1; show cA + 1 ≤ _; omega, by have := hcs.2; show cB + 6 ≤ _; omega⟩ rfl ?_
                                                  refine g_istore (lv' := [(5, _), (0, _), (1, _), (2, _), (3, _), (4, _)]) C (ckD_get k_L_law_23 29 rfl) hL5 rfl ?_
                                                  refine g_aload_n 3 C (ckD_get k_L_law_23 30 rfl) rfl rfl ?_
                                                  refine g_aload_n 1 C (ckD_get k_L_law_23 31 rfl) rfl rfl ?_
                                                  refine g_iload 5 C (ckD_get k_L_law_23 32 rfl) rfl ?_
                                                  refine g_iconst (v := (1 : Int32)) C (ckD_get k_L_law_23 33 rfl) (by decide) ?_
                                                  refine g_iadd C (ckD_get k_L_law_23 34 rfl) ?_
                                                  obtain ⟨v_419, hi_420, ev_419, hf⟩ := rdX_e hf
                                                  refine g_sld hX C (ckD_get k_L_law_23 35 rfl) hi_420 ev_419 ?_
                                                  refine g_aload_n 1 C (ckD_get k_L_law_23 36 rfl) rfl rfl ?_
                                                  refine g_iload 5 C (ckD_get k_L_law_23 37 rfl) rfl ?_
                                                  refine g_iconst (v := (2 : Int32)) C (ckD_get k_L_law_23 38 rfl) (by decide) ?_
                                                  refine g_iadd C (ckD_get k_L_law_23 39 rfl) ?_
                                                  obtain ⟨v_421, hi_422, ev_421, hf⟩ := rdX_e hf
                                                  refine g_sld hX C (ckD_get k_L_law_24 0 rfl) hi_422 ev_421 ?_
                                                  obtain ⟨r_425, M_424, hr_423, hf⟩ := bd2_e hf
                                                  refine n_cV [.int v_419, .int v_421] [] C (ckD_get k_L_law_24 1 rfl) vk_L_162 (t_X10_count C.tr _ _ _ _ hr_423) T69 rfl rfl (Nat.le_of_ble_eq_true rfl) (by decide) ⟨by have := hcs.1; show cA + 1 ≤ _; omega, by have := hcs.2; show cB + 6 ≤ _; omega⟩ rfl ?_
                                                  refine g_lstore (lv' := [(6, _), (5, _), (0, _), (1, _), (2, _), (3, _), (4, _)]) C (ckD_get k_L_law_24 2 rfl) hL7 rfl ?_
                                                  refine g_aload_n 4 C (ckD_get k_L_law_24 3 rfl) rfl rfl ?_
                                                  refine n_cV [] [] C (ckD_get k_L_law_24 4 rfl) vk_L_86 (t_X10_thrown C.tr _ _ rfl) T69 rfl rfl (Nat.le_of_ble_eq_true rfl) (by decide) ⟨by have := hcs.1; show cA + 1 ≤ _; omega, by have := hcs.2; show cB + 6 ≤ _; omega⟩ rfl ?_
                                                  refine g_iload 1 C (ckD_get k_L_law_24 5 rfl) rfl ?_
                                                  refine g_icmp_eq C (ckD_get k_L_law_24 6 rfl) (fun c_426 => ?_) (fun c_426 => ?_)
                                                  · have hf := if_t hf c_426
                                                    refine g_iload 1 C (ckD_get k_L_law_24 9 rfl) rfl ?_
                                                    have hJ_1587 : ∀ (_ : Unit), f_law_J1587 i M_424 () = some rr → G K (cA + 1, cB + 6) 1587 [(0, .ref b), (1, .ref (K.2.1.1 + 0)), (2, .ref (K.2.1.1 + 69)), (3, .ref (K.2.1.1 + 105)), (4, .int i)] [] M_424 := by
                                                      intro _ hf
                                                      unfold f_law_J1587 at hf
                                                      refine g_goto C (ckD_get k_L_law_24 19 rfl) ?_
                                                      refine G.wid (cs' := (cA + 8, cB + 48)) (by show cA + 1 ≤ cA + 8; omega) (by show cB + 6 ≤ cB + 48; omega) ?_
                                                      exact hJ_1690 _ hf
                                                    refine g_if_ne C (ckD_get k_L_law_24 10 rfl) (fun c_427 => ?_) (fun c_427 => ?_)
                                                    · have hf := if_f hf c_427
                                                      refine G.sub [2, 3, 4, 5, 6] rfl ?_
                                                      exact hJ_1587 () hf
                                                    · have hf := if_t hf c_427
                                                      refine g_aload_n 5 C (ckD_get k_L_law_24 11 rfl) rfl rfl ?_
                                                      refine g_iconst (v := (0 : Int32)) C (ckD_get k_L_law_24 12 rfl) (by decide) ?_
                                                      obtain ⟨v_428, hi_429, ev_428, hf⟩ := rdL_e hf
                                                      refine n_lald C (ckD_get k_L_law_24 13 rfl) T105 hi_429 ev_428 ?_
                                                      refine g_lload 0 C (ckD_get k_L_law_24 14 rfl) rfl ?_
                                                      refine g_lcmp C (ckD_get k_L_law_24 15 rfl) ?_
                                                      refine g_if_eq C (ckD_get k_L_law_24 16 rfl) (fun c_430 => ?_) (fun c_430 => ?_)
                                                      · have hf := if_t hf c_430
                                                        refine G.sub [2, 3, 4, 5, 6] rfl ?_
                                                        exact hJ_1587 () hf
                                                      · have hf := if_f hf c_430
                                                        cases hf
                                                  · have hf := if_f hf c_426
                                                    cases hf
                                                · have hf := if_f hf c_411
                                                  by_cases c_431 : sw_6 = (23 : Int32)
                                                  · have hf := if_t hf c_431
                                                    refine g_tabIn (t := 1590) C (ckD_get k_L_law_0 24 rfl) (by rw [c_431]; decide) (by rw [c_431]; decide) (by rw [c_431] <;> rfl) (by decide) ?_
                                                    refine g_aload_n 1 C (ckD_get k_L_law_24 20 rfl) rfl rfl ?_
                                                    refine g_aload_n 3 C (ckD_get k_L_law_24 21 rfl) rfl rfl ?_
                                                    obtain ⟨r_432, M_433, hr_434, hf⟩ := bd2_e hf
                                                    refine g_cSW [.ref (K.2.1.1 + 0), .ref (K.2.1.1 + 105)] [] C (ckD_get k_L_law_24 22 rfl) wk_L_163 (t_L_rank C.tr  _ _ hr_434) rfl rfl (Nat.le_of_ble_eq_true rfl) (by decide) ⟨by have := hcs.1; show cA + 1 ≤ _; omega, by have := hcs.2; show cB + 6 ≤ _; omega⟩ rfl ?_
                                                    refine g_istore (lv' := [(5, _), (0, _), (1, _), (2, _), (3, _), (4, _)]) C (ckD_get k_L_law_24 23 rfl) hL5 rfl ?_
                                                    refine g_aload_n 3 C (ckD_get k_L_law_24 24 rfl) rfl rfl ?_
                                                    obtain ⟨r_437, M_436, hr_435, hf⟩ := bd2_e hf
                                                    refine n_cV [] [] C (ckD_get k_L_law_24 25 rfl) vk_L_165 (t_X10_rank C.tr _ _ hr_435) T69 rfl rfl (Nat.le_of_ble_eq_true rfl) (by decide) ⟨by have := hcs.1; show cA + 1 ≤ _; omega, by have := hcs.2; show cB + 6 ≤ _; omega⟩ rfl ?_
                                                    refine g_lstore (lv' := [(6, _), (5, _), (0, _), (1, _), (2, _), (3, _), (4, _)]) C (ckD_get k_L_law_24 26 rfl) hL7 rfl ?_
                                                    refine g_aload_n 4 C (ckD_get k_L_law_24 27 rfl) rfl rfl ?_
                                                    refine n_cV [] [] C (ckD_get k_L_law_24 28 rfl) vk_L_86 (t_X10_thrown C.tr _ _ rfl) T69 rfl rfl (Nat.le_of_ble_eq_true rfl) (by decide) ⟨by have := hcs.1; show cA + 1 ≤ _; omega, by have := hcs.2; show cB + 6 ≤ _; omega⟩ rfl ?_
                                                    refine g_iload 1 C (ckD_get k_L_law_24 29 rfl) rfl ?_
                                                    refine g_icmp_eq C (ckD_get k_L_law_24 30 rfl) (fun c_438 => ?_) (fun c_438 => ?_)
                                                    · have hf := if_t hf c_438
                                                      refine g_iload 1 C (ckD_get k_L_law_24 33 rfl) rfl ?_
                                                      have hJ_1630 : ∀ (_ : Unit), f_law_J1630 i M_436 () = some rr → G K (cA + 1, cB + 6) 1630 [(0, .ref b), (1, .ref (K.2.1.1 + 0)), (2, .ref (K.2.1.1 + 69)), (3, .ref (K.2.1.1 + 105)), (4, .int i)] [] M_436 := by
                                                        intro _ hf
                                                        unfold f_law_J1630 at hf
                                                        refine g_goto C (ckD_get k_L_law_25 3 rfl) ?_
                                                        refine G.wid (cs' := (cA + 8, cB + 48)) (by show cA + 1 ≤ cA + 8; omega) (by show cB + 6 ≤ cB + 48; omega) ?_
                                                        exact hJ_1690 _ hf
                                                      refine g_if_ne C (ckD_get k_L_law_24 34 rfl) (fun c_439 => ?_) (fun c_439 => ?_)
                                                      · have hf := if_f hf c_439
                                                        refine G.sub [2, 3, 4, 5, 6] rfl ?_
                                                        exact hJ_1630 () hf
                                                      · have hf := if_t hf c_439
                                                        refine g_aload_n 5 C (ckD_get k_L_law_24 35 rfl) rfl rfl ?_
                                                        refine g_iconst (v := (0 : Int32)) C (ckD_get k_L_law_24 36 rfl) (by decide) ?_
                                                        obtain ⟨v_440, hi_441, ev_440, hf⟩ := rdL_e hf
                                                        refine n_lald C (ckD_get k_L_law_24 37 rfl) T105 hi_441 ev_440 ?_
                                                        refine g_lload 0 C (ckD_get k_L_law_24 38 rfl) rfl ?_
                                                        refine g_lcmp C (ckD_get k_L_law_24 39 rfl) ?_
                                                        refine g_if_eq C (ckD_get k_L_law_25 0 rfl) (fun c_442 => ?_) (fun c_442 => ?_)
                                                        · have hf := if_t hf c_442
                                                          refine G.sub [2, 3, 4, 5, 6] rfl ?_
                                                          exact hJ_1630 () hf
                                                        · have hf := if_f hf c_442
                                                          cases hf
                                                    · have hf := if_f hf c_438
                                                      cases hf
                                                  · have hf := if_f hf c_431
                                                    by_cases c_443 : sw_6 = (24 : Int32)
                                                    · have hf := if_t hf c_443
                                                      refine g_tabIn (t := 1633) C (ckD_get k_L_law_0 24 rfl) (by rw [c_443]; decide) (by rw [c_443]; decide) (by rw [c_443] <;> rfl) (by decide) ?_
                                                      refine g_aload_n 1 C (ckD_get k_L_law_25 4 rfl) rfl rfl ?_
                                                      refine g_aload_n 0 C (ckD_get k_L_law_25 5 rfl) rfl rfl ?_
                                                      refine g_iload 4 C (ckD_get k_L_law_25 6 rfl) rfl ?_
                                                      refine g_iconst (v := (1 : Int32)) C (ckD_get k_L_law_25 7 rfl) (by decide) ?_
                                                      refine g_iadd C (ckD_get k_L_law_25 8 rfl) ?_
                                                      obtain ⟨v_444, hi_445, ev_444, hf⟩ := rdX_e hf
                                                      refine g_sld hX C (ckD_get k_L_law_25 9 rfl) hi_445 ev_444 ?_
                                                      refine g_i2l C (ckD_get k_L_law_25 10 rfl) ?_
                                                      refine g_bipush (v := (32 : Int32)) C (ckD_get k_L_law_25 11 rfl) (by decide) ?_
                                                      refine g_lshl C (ckD_get k_L_law_25 12 rfl) ?_
                                                      refine g_aload_n 0 C (ckD_get k_L_law_25 13 rfl) rfl rfl ?_
                                                      refine g_iload 4 C (ckD_get k_L_law_25 14 rfl) rfl ?_
                                                      refine g_iconst (v := (2 : Int32)) C (ckD_get k_L_law_25 15 rfl) (by decide) ?_
                                                      refine g_iadd C (ckD_get k_L_law_25 16 rfl) ?_
                                                      obtain ⟨v_446, hi_447, ev_446, hf⟩ := rdX_e hf
                                                      refine g_sld hX C (ckD_get k_L_law_25 17 rfl) hi_447 ev_446 ?_
                                                      refine g_i2l C (ckD_get k_L_law_25 18 rfl) ?_
                                                      refine g_ldc2 C (ckD_get k_L_law_25 19 rfl) q1543 ?_
                                                      refine g_land C (ckD_get k_L_law_25 20 rfl) ?_
                                                      refine g_lor C (ckD_get k_L_law_25 21 rfl) ?_
                                                      obtain ⟨r_450, M_449, hr_448, hf⟩ := bd2_e hf
                                                      refine n_cV [.long ((((v_444).toInt64) <<< (((32 : Int32)).toInt64 &&& 63)) ||| (((v_446).toInt64) &&& (4294967295 : Int64)))] [] C (ckD_get k_L_law_25 22 rfl) vk_L_166 (t_X9_of C.tr _ _ _ hr_448) T0 rfl rfl (Nat.le_of_ble_eq_true rfl) (by decide) ⟨by have := hcs.1; show cA + 0 ≤ _; omega, by have := hcs.2; show cB + 0 ≤ _; omega⟩ rfl ?_
                                                      refine g_aload_n 2 C (ckD_get k_L_law_25 23 rfl) rfl rfl ?_
                                                      refine g_aload_n 0 C (ckD_get k_L_law_25 24 rfl) rfl rfl ?_
                                                      refine g_iload 4 C (ckD_get k_L_law_25 25 rfl) rfl ?_
                                                      refine g_iconst (v := (1 : Int32)) C (ckD_get k_L_law_25 26 rfl) (by decide) ?_
                                                      refine g_iadd C (ckD_get k_L_law_25 27 rfl) ?_
                                                      obtain ⟨v_451, hi_452, ev_451, hf⟩ := rdX_e hf
                                                      refine g_sld hX C (ckD_get k_L_law_25 28 rfl) hi_452 ev_451 ?_
                                                      refine g_i2l C (ckD_get k_L_law_25 29 rfl) ?_
                                                      refine g_bipush (v := (32 : Int32)) C (ckD_get k_L_law_25 30 rfl) (by decide) ?_
                                                      refine g_lshl C (ckD_get k_L_law_25 31 rfl) ?_
                                                      refine g_aload_n 0 C (ckD_get k_L_law_25 32 rfl) rfl rfl ?_
                                                      refine g_iload 4 C (ckD_get k_L_law_25 33 rfl) rfl ?_
                                                      refine g_iconst (v := (2 : Int32)) C (ckD_get k_L_law_25 34 rfl) (by decide) ?_
                                                      refine g_iadd C (ckD_get k_L_law_25 35 rfl) ?_
                                                      obtain ⟨v_453, hi_454, ev_453, hf⟩ := rdX_e hf
                                                      refine g_sld hX C (ckD_get k_L_law_25 36 rfl) hi_454 ev_453 ?_
                                                      refine g_i2l C (ckD_get k_L_law_25 37 rfl) ?_
                                                      refine g_ldc2 C (ckD_get k_L_law_25 38 rfl) q1543 ?_
                                                      refine g_land C (ckD_get k_L_law_25 39 rfl) ?_
                                                      refine g_lor C (ckD_get k_L_law_26 0 rfl) ?_
                                                      obtain ⟨r_457, M_456, hr_455, hf⟩ := bd2_e hf
                                                      refine n_cV [.long ((((v_451).toInt64) <<< (((32 : Int32)).toInt64 &&& 63)) ||| (((v_453).toInt64) &&& (4294967295 : Int64)))] [.int r_450] C (ckD_get k_L_law_26 1 rfl) vk_L_170 (t_X10_of C.tr _ _ _ hr_455) T69 rfl rfl (Nat.le_of_ble_eq_true rfl) (by decide) ⟨by have := hcs.1; show cA + 0 ≤ _; omega, by have := hcs.2; show cB + 0 ≤ _; omega⟩ rfl ?_
                                                      refine g_icmp_eq C (ckD_get k_L_law_26 2 rfl) (fun c_458 => ?_) (fun c_458 => ?_)
                                                      · have hf := if_t hf c_458
                                                        refine G.wid (cs' := (cA + 8, cB + 48)) (by show cA + 0 ≤ cA + 8; omega) (by show cB + 0 ≤ cB + 48; omega) ?_
                                                        exact hJ_1690 _ hf
                                                      · have hf := if_f hf c_458
                                                        cases hf
                                                    · have hf := if_f hf c_443
                                                      have ic_7 := i32_ne (n := 0) c_7 (by decide)
                                                      have ic_31 := i32_ne (n := 1) c_31 (by decide)
                                                      have ic_39 := i32_ne (n := 2) c_39 (by decide)
                                                      have ic_59 := i32_ne (n := 3) c_59 (by decide)
                                                      have ic_79 := i32_ne (n := 4) c_79 (by decide)
                                                      have ic_87 := i32_ne (n := 5) c_87 (by decide)
                                                      have ic_121 := i32_ne (n := 6) c_121 (by decide)
                                                      have ic_149 := i32_ne (n := 7) c_149 (by decide)
                                                      have ic_177 := i32_ne (n := 8) c_177 (by decide)
                                                      have ic_209 := i32_ne (n := 9) c_209 (by decide)
                                                      have ic_225 := i32_ne (n := 10) c_225 (by decide)
                                                      have ic_245 := i32_ne (n := 11) c_245 (by decide)
                                                      have ic_261 := i32_ne (n := 12) c_261 (by decide)
                                                      have ic_281 := i32_ne (n := 13) c_281 (by decide)
                                                      have ic_293 := i32_ne (n := 14) c_293 (by decide)
                                                      have ic_301 := i32_ne (n := 15) c_301 (by decide)
                                                      have ic_315 := i32_ne (n := 16) c_315 (by decide)
                                                      have ic_327 := i32_ne (n := 17) c_327 (by decide)
                                                      have ic_339 := i32_ne (n := 18) c_339 (by decide)
                                                      have ic_359 := i32_ne (n := 19) c_359 (by decide)
                                                      have ic_375 := i32_ne (n := 20) c_375 (by decide)
                                                      have ic_395 := i32_ne (n := 21) c_395 (by decide)
                                                      have ic_411 := i32_ne (n := 22) c_411 (by decide)
                                                      have ic_431 := i32_ne (n := 23) c_431 (by decide)
                                                      have ic_443 := i32_ne (n := 24) c_443 (by decide)
                                                      refine g_tabOut (t := 1690) C (ckD_get k_L_law_0 24 rfl) (by omega) (by decide) ?_
                                                      refine G.wid (cs' := (cA + 8, cB + 48)) (by show cA + 0 ≤ cA + 8; omega) (by show cB + 0 ≤ cB + 48; omega) ?_
                                                      exact hJ_1690 _ hf
