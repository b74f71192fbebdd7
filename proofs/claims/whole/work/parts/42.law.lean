/-! the law: its model, and its walk from the loop on (made by wip/whole/mklaw.py) -/
theorem lk_L_98 : lkV RL 98 yX10_begin cX10_begin 3 (some .int) 1 := ⟨⟨bw_mem (w := Cond.methodLink RL 98 yX10_begin) 1291 (by decide +kernel) rfl, bw_mem (w := Cond.initialized RX10) 102 (by decide +kernel) rfl, bw_mem (w := Cond.code yX10_begin cX10_begin 3 (some .int)) 1294 (by decide +kernel) rfl, by decide +kernel⟩, bw_mem (w := Cond.instanceMethod yX10_begin) 1292 (by decide +kernel) rfl, bw_mem (w := Cond.selects RX10 yX10_begin yX10_begin) 1293 (by decide +kernel) rfl⟩
theorem lk_L_99 : lkV RL 99 yX10_thrown cX10_thrown 1 (some .int) 0 := ⟨⟨bw_mem (w := Cond.methodLink RL 99 yX10_thrown) 1287 (by decide +kernel) rfl, bw_mem (w := Cond.initialized RX10) 102 (by decide +kernel) rfl, bw_mem (w := Cond.code yX10_thrown cX10_thrown 1 (some .int)) 1290 (by decide +kernel) rfl, by decide +kernel⟩, bw_mem (w := Cond.instanceMethod yX10_thrown) 1288 (by decide +kernel) rfl, bw_mem (w := Cond.selects RX10 yX10_thrown yX10_thrown) 1289 (by decide +kernel) rfl⟩
theorem lk_L_105 : lkV RL 105 yX10_addArrow cX10_addArrow 3 (some .int) 2 := ⟨⟨bw_mem (w := Cond.methodLink RL 105 yX10_addArrow) 1298 (by decide +kernel) rfl, bw_mem (w := Cond.initialized RX10) 102 (by decide +kernel) rfl, bw_mem (w := Cond.code yX10_addArrow cX10_addArrow 3 (some .int)) 1301 (by decide +kernel) rfl, by decide +kernel⟩, bw_mem (w := Cond.instanceMethod yX10_addArrow) 1299 (by decide +kernel) rfl, bw_mem (w := Cond.selects RX10 yX10_addArrow yX10_addArrow) 1300 (by decide +kernel) rfl⟩
theorem lk_L_109 : lkV RL 109 yX10_dropArrow cX10_dropArrow 3 (some .int) 0 := ⟨⟨bw_mem (w := Cond.methodLink RL 109 yX10_dropArrow) 1310 (by decide +kernel) rfl, bw_mem (w := Cond.initialized RX10) 102 (by decide +kernel) rfl, bw_mem (w := Cond.code yX10_dropArrow cX10_dropArrow 3 (some .int)) 1313 (by decide +kernel) rfl, by decide +kernel⟩, bw_mem (w := Cond.instanceMethod yX10_dropArrow) 1311 (by decide +kernel) rfl, bw_mem (w := Cond.selects RX10 yX10_dropArrow yX10_dropArrow) 1312 (by decide +kernel) rfl⟩
theorem lk_L_112 : lkV RL 112 yX10_addCell cX10_addCell 4 (some .int) 2 := ⟨⟨bw_mem (w := Cond.methodLink RL 112 yX10_addCell) 1322 (by decide +kernel) rfl, bw_mem (w := Cond.initialized RX10) 102 (by decide +kernel) rfl, bw_mem (w := Cond.code yX10_addCell cX10_addCell 4 (some .int)) 1325 (by decide +kernel) rfl, by decide +kernel⟩, bw_mem (w := Cond.instanceMethod yX10_addCell) 1323 (by decide +kernel) rfl, bw_mem (w := Cond.selects RX10 yX10_addCell yX10_addCell) 1324 (by decide +kernel) rfl⟩
theorem lk_L_115 : lkV RL 115 yX10_dropCell cX10_dropCell 2 (some .int) 1 := ⟨⟨bw_mem (w := Cond.methodLink RL 115 yX10_dropCell) 1338 (by decide +kernel) rfl, bw_mem (w := Cond.initialized RX10) 102 (by decide +kernel) rfl, bw_mem (w := Cond.code yX10_dropCell cX10_dropCell 2 (some .int)) 1341 (by decide +kernel) rfl, by decide +kernel⟩, bw_mem (w := Cond.instanceMethod yX10_dropCell) 1339 (by decide +kernel) rfl, bw_mem (w := Cond.selects RX10 yX10_dropCell yX10_dropCell) 1340 (by decide +kernel) rfl⟩
theorem lk_L_118 : lkV RL 118 yX10_append cX10_append 2 (some .int) 1 := ⟨⟨bw_mem (w := Cond.methodLink RL 118 yX10_append) 1346 (by decide +kernel) rfl, bw_mem (w := Cond.initialized RX10) 102 (by decide +kernel) rfl, bw_mem (w := Cond.code yX10_append cX10_append 2 (some .int)) 1349 (by decide +kernel) rfl, by decide +kernel⟩, bw_mem (w := Cond.instanceMethod yX10_append) 1347 (by decide +kernel) rfl, bw_mem (w := Cond.selects RX10 yX10_append yX10_append) 1348 (by decide +kernel) rfl⟩
theorem lk_L_119 : lkV RL 119 yX9_clearInput cX9_clearInput 2 (some .int) 0 := ⟨⟨bw_mem (w := Cond.methodLink RL 119 yX9_clearInput) 452 (by decide +kernel) rfl, bw_mem (w := Cond.initialized RX9) 92 (by decide +kernel) rfl, bw_mem (w := Cond.code yX9_clearInput cX9_clearInput 2 (some .int)) 455 (by decide +kernel) rfl, by decide +kernel⟩, bw_mem (w := Cond.instanceMethod yX9_clearInput) 453 (by decide +kernel) rfl, bw_mem (w := Cond.selects RX9 yX9_clearInput yX9_clearInput) 454 (by decide +kernel) rfl⟩
theorem lk_L_122 : lkV RL 122 yX10_clearInput cX10_clearInput 2 (some .int) 0 := ⟨⟨bw_mem (w := Cond.methodLink RL 122 yX10_clearInput) 1350 (by decide +kernel) rfl, bw_mem (w := Cond.initialized RX10) 102 (by decide +kernel) rfl, bw_mem (w := Cond.code yX10_clearInput cX10_clearInput 2 (some .int)) 1353 (by decide +kernel) rfl, by decide +kernel⟩, bw_mem (w := Cond.instanceMethod yX10_clearInput) 1351 (by decide +kernel) rfl, bw_mem (w := Cond.selects RX10 yX10_clearInput yX10_clearInput) 1352 (by decide +kernel) rfl⟩
theorem lk_L_123 : lkV RL 123 yX9_firstError cX9_firstError 1 (some .int) 0 := ⟨⟨bw_mem (w := Cond.methodLink RL 123 yX9_firstError) 464 (by decide +kernel) rfl, bw_mem (w := Cond.initialized RX9) 92 (by decide +kernel) rfl, bw_mem (w := Cond.code yX9_firstError cX9_firstError 1 (some .int)) 467 (by decide +kernel) rfl, by decide +kernel⟩, bw_mem (w := Cond.instanceMethod yX9_firstError) 465 (by decide +kernel) rfl, bw_mem (w := Cond.selects RX9 yX9_firstError yX9_firstError) 466 (by decide +kernel) rfl⟩
theorem lk_L_126 : lkV RL 126 yX10_firstError cX10_firstError 1 (some .int) 0 := ⟨⟨bw_mem (w := Cond.methodLink RL 126 yX10_firstError) 1354 (by decide +kernel) rfl, bw_mem (w := Cond.initialized RX10) 102 (by decide +kernel) rfl, bw_mem (w := Cond.code yX10_firstError cX10_firstError 1 (some .int)) 1357 (by decide +kernel) rfl, by decide +kernel⟩, bw_mem (w := Cond.instanceMethod yX10_firstError) 1355 (by decide +kernel) rfl, bw_mem (w := Cond.selects RX10 yX10_firstError yX10_firstError) 1356 (by decide +kernel) rfl⟩
theorem lk_L_129 : lkV RL 129 yX10_load cX10_load 4 (some .int) 0 := ⟨⟨bw_mem (w := Cond.methodLink RL 129 yX10_load) 1386 (by decide +kernel) rfl, bw_mem (w := Cond.initialized RX10) 102 (by decide +kernel) rfl, bw_mem (w := Cond.code yX10_load cX10_load 4 (some .int)) 1389 (by decide +kernel) rfl, by decide +kernel⟩, bw_mem (w := Cond.instanceMethod yX10_load) 1387 (by decide +kernel) rfl, bw_mem (w := Cond.selects RX10 yX10_load yX10_load) 1388 (by decide +kernel) rfl⟩
theorem lk_L_130 : lkV RL 130 yX9_find cX9_find 3 (some .int) 0 := ⟨⟨bw_mem (w := Cond.methodLink RL 130 yX9_find) 559 (by decide +kernel) rfl, bw_mem (w := Cond.initialized RX9) 92 (by decide +kernel) rfl, bw_mem (w := Cond.code yX9_find cX9_find 3 (some .int)) 562 (by decide +kernel) rfl, by decide +kernel⟩, bw_mem (w := Cond.instanceMethod yX9_find) 560 (by decide +kernel) rfl, bw_mem (w := Cond.selects RX9 yX9_find yX9_find) 561 (by decide +kernel) rfl⟩
theorem lk_L_133 : lkV RL 133 yX10_find cX10_find 4 (some .int) 0 := ⟨⟨bw_mem (w := Cond.methodLink RL 133 yX10_find) 1390 (by decide +kernel) rfl, bw_mem (w := Cond.initialized RX10) 102 (by decide +kernel) rfl, bw_mem (w := Cond.code yX10_find cX10_find 4 (some .int)) 1393 (by decide +kernel) rfl, by decide +kernel⟩, bw_mem (w := Cond.instanceMethod yX10_find) 1391 (by decide +kernel) rfl, bw_mem (w := Cond.selects RX10 yX10_find yX10_find) 1392 (by decide +kernel) rfl⟩
theorem lk_L_136 : lkV RL 136 yX10_path cX10_path 3 (some .int) 2 := ⟨⟨bw_mem (w := Cond.methodLink RL 136 yX10_path) 1434 (by decide +kernel) rfl, bw_mem (w := Cond.initialized RX10) 102 (by decide +kernel) rfl, bw_mem (w := Cond.code yX10_path cX10_path 3 (some .int)) 1437 (by decide +kernel) rfl, by decide +kernel⟩, bw_mem (w := Cond.instanceMethod yX10_path) 1435 (by decide +kernel) rfl, bw_mem (w := Cond.selects RX10 yX10_path yX10_path) 1436 (by decide +kernel) rfl⟩
theorem lk_L_139 : lkV RL 139 yX10_arrowOf cX10_arrowOf 3 (some .int) 2 := ⟨⟨bw_mem (w := Cond.methodLink RL 139 yX10_arrowOf) 1462 (by decide +kernel) rfl, bw_mem (w := Cond.initialized RX10) 102 (by decide +kernel) rfl, bw_mem (w := Cond.code yX10_arrowOf cX10_arrowOf 3 (some .int)) 1465 (by decide +kernel) rfl, by decide +kernel⟩, bw_mem (w := Cond.instanceMethod yX10_arrowOf) 1463 (by decide +kernel) rfl, bw_mem (w := Cond.selects RX10 yX10_arrowOf yX10_arrowOf) 1464 (by decide +kernel) rfl⟩
theorem lk_L_143 : lkV RL 143 yX10_between cX10_between 4 (some .int) 3 := ⟨⟨bw_mem (w := Cond.methodLink RL 143 yX10_between) 1466 (by decide +kernel) rfl, bw_mem (w := Cond.initialized RX10) 102 (by decide +kernel) rfl, bw_mem (w := Cond.code yX10_between cX10_between 4 (some .int)) 1469 (by decide +kernel) rfl, by decide +kernel⟩, bw_mem (w := Cond.instanceMethod yX10_between) 1467 (by decide +kernel) rfl, bw_mem (w := Cond.selects RX10 yX10_between yX10_between) 1468 (by decide +kernel) rfl⟩
theorem lk_L_146 : lkV RL 146 yX10_distance cX10_distance 3 (some .int) 2 := ⟨⟨bw_mem (w := Cond.methodLink RL 146 yX10_distance) 1398 (by decide +kernel) rfl, bw_mem (w := Cond.initialized RX10) 102 (by decide +kernel) rfl, bw_mem (w := Cond.code yX10_distance cX10_distance 3 (some .int)) 1401 (by decide +kernel) rfl, by decide +kernel⟩, bw_mem (w := Cond.instanceMethod yX10_distance) 1399 (by decide +kernel) rfl, bw_mem (w := Cond.selects RX10 yX10_distance yX10_distance) 1400 (by decide +kernel) rfl⟩
theorem lk_L_150 : lkV RL 150 yX10_proof cX10_proof 8 (some .int) 4 := ⟨⟨bw_mem (w := Cond.methodLink RL 150 yX10_proof) 1426 (by decide +kernel) rfl, bw_mem (w := Cond.initialized RX10) 102 (by decide +kernel) rfl, bw_mem (w := Cond.code yX10_proof cX10_proof 8 (some .int)) 1429 (by decide +kernel) rfl, by decide +kernel⟩, bw_mem (w := Cond.instanceMethod yX10_proof) 1427 (by decide +kernel) rfl, bw_mem (w := Cond.selects RX10 yX10_proof yX10_proof) 1428 (by decide +kernel) rfl⟩
theorem lk_L_153 : lkV RL 153 yX10_cell cX10_cell 3 (some .int) 2 := ⟨⟨bw_mem (w := Cond.methodLink RL 153 yX10_cell) 1474 (by decide +kernel) rfl, bw_mem (w := Cond.initialized RX10) 102 (by decide +kernel) rfl, bw_mem (w := Cond.code yX10_cell cX10_cell 3 (some .int)) 1477 (by decide +kernel) rfl, by decide +kernel⟩, bw_mem (w := Cond.instanceMethod yX10_cell) 1475 (by decide +kernel) rfl, bw_mem (w := Cond.selects RX10 yX10_cell yX10_cell) 1476 (by decide +kernel) rfl⟩
theorem lk_L_156 : lkV RL 156 yX10_count cX10_count 2 (some .int) 1 := ⟨⟨bw_mem (w := Cond.methodLink RL 156 yX10_count) 1506 (by decide +kernel) rfl, bw_mem (w := Cond.initialized RX10) 102 (by decide +kernel) rfl, bw_mem (w := Cond.code yX10_count cX10_count 2 (some .int)) 1509 (by decide +kernel) rfl, by decide +kernel⟩, bw_mem (w := Cond.instanceMethod yX10_count) 1507 (by decide +kernel) rfl, bw_mem (w := Cond.selects RX10 yX10_count yX10_count) 1508 (by decide +kernel) rfl⟩
theorem lk_L_157 : lkV RL 157 yX9_commuting cX9_commuting 2 (some .double) 0 := ⟨⟨bw_mem (w := Cond.methodLink RL 157 yX9_commuting) 570 (by decide +kernel) rfl, bw_mem (w := Cond.initialized RX9) 92 (by decide +kernel) rfl, bw_mem (w := Cond.code yX9_commuting cX9_commuting 2 (some .double)) 573 (by decide +kernel) rfl, by decide +kernel⟩, bw_mem (w := Cond.instanceMethod yX9_commuting) 571 (by decide +kernel) rfl, bw_mem (w := Cond.selects RX9 yX9_commuting yX9_commuting) 572 (by decide +kernel) rfl⟩
theorem lk_L_161 : lkV RL 161 yX10_commuting cX10_commuting 1 (some .double) 0 := ⟨⟨bw_mem (w := Cond.methodLink RL 161 yX10_commuting) 1525 (by decide +kernel) rfl, bw_mem (w := Cond.initialized RX10) 102 (by decide +kernel) rfl, bw_mem (w := Cond.code yX10_commuting cX10_commuting 1 (some .double)) 1528 (by decide +kernel) rfl, by decide +kernel⟩, bw_mem (w := Cond.instanceMethod yX10_commuting) 1526 (by decide +kernel) rfl, bw_mem (w := Cond.selects RX10 yX10_commuting yX10_commuting) 1527 (by decide +kernel) rfl⟩
theorem lk_L_164 : lkV RL 164 yX10_setSize cX10_setSize 5 (some .int) 2 := ⟨⟨bw_mem (w := Cond.methodLink RL 164 yX10_setSize) 1533 (by decide +kernel) rfl, bw_mem (w := Cond.initialized RX10) 102 (by decide +kernel) rfl, bw_mem (w := Cond.code yX10_setSize cX10_setSize 5 (some .int)) 1536 (by decide +kernel) rfl, by decide +kernel⟩, bw_mem (w := Cond.instanceMethod yX10_setSize) 1534 (by decide +kernel) rfl, bw_mem (w := Cond.selects RX10 yX10_setSize yX10_setSize) 1535 (by decide +kernel) rfl⟩
theorem lk_L_167 : lkV RL 167 yX10_setFunction cX10_setFunction 4 (some .int) 2 := ⟨⟨bw_mem (w := Cond.methodLink RL 167 yX10_setFunction) 1537 (by decide +kernel) rfl, bw_mem (w := Cond.initialized RX10) 102 (by decide +kernel) rfl, bw_mem (w := Cond.code yX10_setFunction cX10_setFunction 4 (some .int)) 1540 (by decide +kernel) rfl, by decide +kernel⟩, bw_mem (w := Cond.instanceMethod yX10_setFunction) 1538 (by decide +kernel) rfl, bw_mem (w := Cond.selects RX10 yX10_setFunction yX10_setFunction) 1539 (by decide +kernel) rfl⟩
theorem lk_L_170 : lkV RL 170 yX10_apply cX10_apply 3 (some .int) 2 := ⟨⟨bw_mem (w := Cond.methodLink RL 170 yX10_apply) 1545 (by decide +kernel) rfl, bw_mem (w := Cond.initialized RX10) 102 (by decide +kernel) rfl, bw_mem (w := Cond.code yX10_apply cX10_apply 3 (some .int)) 1548 (by decide +kernel) rfl, by decide +kernel⟩, bw_mem (w := Cond.instanceMethod yX10_apply) 1546 (by decide +kernel) rfl, bw_mem (w := Cond.selects RX10 yX10_apply yX10_apply) 1547 (by decide +kernel) rfl⟩
theorem lk_L_173 : lkV RL 173 yX10_imageShare cX10_imageShare 2 (some .int) 1 := ⟨⟨bw_mem (w := Cond.methodLink RL 173 yX10_imageShare) 1549 (by decide +kernel) rfl, bw_mem (w := Cond.initialized RX10) 102 (by decide +kernel) rfl, bw_mem (w := Cond.code yX10_imageShare cX10_imageShare 2 (some .int)) 1552 (by decide +kernel) rfl, by decide +kernel⟩, bw_mem (w := Cond.instanceMethod yX10_imageShare) 1550 (by decide +kernel) rfl, bw_mem (w := Cond.selects RX10 yX10_imageShare yX10_imageShare) 1551 (by decide +kernel) rfl⟩
theorem lk_L_176 : lkV RL 176 yX10_separate cX10_separate 4 (some .int) 2 := ⟨⟨bw_mem (w := Cond.methodLink RL 176 yX10_separate) 1563 (by decide +kernel) rfl, bw_mem (w := Cond.initialized RX10) 102 (by decide +kernel) rfl, bw_mem (w := Cond.code yX10_separate cX10_separate 4 (some .int)) 1566 (by decide +kernel) rfl, by decide +kernel⟩, bw_mem (w := Cond.instanceMethod yX10_separate) 1564 (by decide +kernel) rfl, bw_mem (w := Cond.selects RX10 yX10_separate yX10_separate) 1565 (by decide +kernel) rfl⟩
theorem lk_L_179 : lkV RL 179 yX10_isProduct cX10_isProduct 5 (some .boolean) 2 := ⟨⟨bw_mem (w := Cond.methodLink RL 179 yX10_isProduct) 1575 (by decide +kernel) rfl, bw_mem (w := Cond.initialized RX10) 102 (by decide +kernel) rfl, bw_mem (w := Cond.code yX10_isProduct cX10_isProduct 5 (some .boolean)) 1578 (by decide +kernel) rfl, by decide +kernel⟩, bw_mem (w := Cond.instanceMethod yX10_isProduct) 1576 (by decide +kernel) rfl, bw_mem (w := Cond.selects RX10 yX10_isProduct yX10_isProduct) 1577 (by decide +kernel) rfl⟩
theorem lk_L_182 : lkV RL 182 yX10_isPullback cX10_isPullback 11 (some .boolean) 4 := ⟨⟨bw_mem (w := Cond.methodLink RL 182 yX10_isPullback) 1583 (by decide +kernel) rfl, bw_mem (w := Cond.initialized RX10) 102 (by decide +kernel) rfl, bw_mem (w := Cond.code yX10_isPullback cX10_isPullback 11 (some .boolean)) 1586 (by decide +kernel) rfl, by decide +kernel⟩, bw_mem (w := Cond.instanceMethod yX10_isPullback) 1584 (by decide +kernel) rfl, bw_mem (w := Cond.selects RX10 yX10_isPullback yX10_isPullback) 1585 (by decide +kernel) rfl⟩
theorem lk_L_186 : lkV RL 186 yX10_isEqualizer cX10_isEqualizer 8 (some .boolean) 3 := ⟨⟨bw_mem (w := Cond.methodLink RL 186 yX10_isEqualizer) 1587 (by decide +kernel) rfl, bw_mem (w := Cond.initialized RX10) 102 (by decide +kernel) rfl, bw_mem (w := Cond.code yX10_isEqualizer cX10_isEqualizer 8 (some .boolean)) 1590 (by decide +kernel) rfl, by decide +kernel⟩, bw_mem (w := Cond.instanceMethod yX10_isEqualizer) 1588 (by decide +kernel) rfl, bw_mem (w := Cond.selects RX10 yX10_isEqualizer yX10_isEqualizer) 1589 (by decide +kernel) rfl⟩
theorem lk_L_187 : lkV RL 187 yX9_digest cX9_digest 5 (some .long) 0 := ⟨⟨bw_mem (w := Cond.methodLink RL 187 yX9_digest) 632 (by decide +kernel) rfl, bw_mem (w := Cond.initialized RX9) 92 (by decide +kernel) rfl, bw_mem (w := Cond.code yX9_digest cX9_digest 5 (some .long)) 635 (by decide +kernel) rfl, by decide +kernel⟩, bw_mem (w := Cond.instanceMethod yX9_digest) 633 (by decide +kernel) rfl, bw_mem (w := Cond.selects RX9 yX9_digest yX9_digest) 634 (by decide +kernel) rfl⟩
theorem lk_L_191 : lkV RL 191 yX10_digest cX10_digest 2 (some .long) 0 := ⟨⟨bw_mem (w := Cond.methodLink RL 191 yX10_digest) 1591 (by decide +kernel) rfl, bw_mem (w := Cond.initialized RX10) 102 (by decide +kernel) rfl, bw_mem (w := Cond.code yX10_digest cX10_digest 2 (some .long)) 1594 (by decide +kernel) rfl, by decide +kernel⟩, bw_mem (w := Cond.instanceMethod yX10_digest) 1592 (by decide +kernel) rfl, bw_mem (w := Cond.selects RX10 yX10_digest yX10_digest) 1593 (by decide +kernel) rfl⟩
theorem lkw_93 : lkW RL 93 yL_begin cL_begin 4 [(0, 9, 12, 13)] 3 := ⟨bw_mem (w := Cond.methodLink RL 93 yL_begin) 831 (by decide +kernel) rfl, bw_mem (w := Cond.initialized RL) 91 (by decide +kernel) rfl, bw_mem (w := Cond.codeWith yL_begin cL_begin 4 (some .int) [(0, 9, 12, 13)]) 833 (by decide +kernel) rfl, by decide +kernel, bw_mem (w := Cond.static yL_begin) 832 (by decide +kernel) rfl⟩
theorem lkw_102 : lkW RL 102 yL_addArrow cL_addArrow 5 [(0, 10, 13, 19), (0, 10, 17, 13), (0, 10, 21, 21)] 4 := ⟨bw_mem (w := Cond.methodLink RL 102 yL_addArrow) 844 (by decide +kernel) rfl, bw_mem (w := Cond.initialized RL) 91 (by decide +kernel) rfl, bw_mem (w := Cond.codeWith yL_addArrow cL_addArrow 5 (some .int) [(0, 10, 13, 19), (0, 10, 17, 13), (0, 10, 21, 21)]) 846 (by decide +kernel) rfl, by decide +kernel, bw_mem (w := Cond.static yL_addArrow) 845 (by decide +kernel) rfl⟩
theorem lkw_106 : lkW RL 106 yL_dropArrow cL_dropArrow 3 [(0, 8, 11, 21)] 2 := ⟨bw_mem (w := Cond.methodLink RL 106 yL_dropArrow) 895 (by decide +kernel) rfl, bw_mem (w := Cond.initialized RL) 91 (by decide +kernel) rfl, bw_mem (w := Cond.codeWith yL_dropArrow cL_dropArrow 3 (some .int) [(0, 8, 11, 21)]) 897 (by decide +kernel) rfl, by decide +kernel, bw_mem (w := Cond.static yL_dropArrow) 896 (by decide +kernel) rfl⟩
theorem lkw_110 : lkW RL 110 yL_addCell cL_addCell 5 [(0, 10, 13, 19), (0, 10, 17, 13), (0, 10, 21, 21)] 4 := ⟨bw_mem (w := Cond.methodLink RL 110 yL_addCell) 919 (by decide +kernel) rfl, bw_mem (w := Cond.initialized RL) 91 (by decide +kernel) rfl, bw_mem (w := Cond.codeWith yL_addCell cL_addCell 5 (some .int) [(0, 10, 13, 19), (0, 10, 17, 13), (0, 10, 21, 21)]) 921 (by decide +kernel) rfl, by decide +kernel, bw_mem (w := Cond.static yL_addCell) 920 (by decide +kernel) rfl⟩
theorem lkw_113 : lkW RL 113 yL_dropCell cL_dropCell 4 [(0, 9, 12, 19)] 3 := ⟨bw_mem (w := Cond.methodLink RL 113 yL_dropCell) 938 (by decide +kernel) rfl, bw_mem (w := Cond.initialized RL) 91 (by decide +kernel) rfl, bw_mem (w := Cond.codeWith yL_dropCell cL_dropCell 4 (some .int) [(0, 9, 12, 19)]) 940 (by decide +kernel) rfl, by decide +kernel, bw_mem (w := Cond.static yL_dropCell) 939 (by decide +kernel) rfl⟩
theorem lkw_116 : lkW RL 116 yL_append cL_append 4 [(0, 9, 12, 13), (0, 9, 15, 21)] 3 := ⟨bw_mem (w := Cond.methodLink RL 116 yL_append) 949 (by decide +kernel) rfl, bw_mem (w := Cond.initialized RL) 91 (by decide +kernel) rfl, bw_mem (w := Cond.codeWith yL_append cL_append 4 (some .int) [(0, 9, 12, 13), (0, 9, 15, 21)]) 951 (by decide +kernel) rfl, by decide +kernel, bw_mem (w := Cond.static yL_append) 950 (by decide +kernel) rfl⟩
theorem lkw_127 : lkW RL 127 yL_load cL_load 3 [(0, 8, 11, 13), (0, 8, 14, 21)] 2 := ⟨bw_mem (w := Cond.methodLink RL 127 yL_load) 963 (by decide +kernel) rfl, bw_mem (w := Cond.initialized RL) 91 (by decide +kernel) rfl, bw_mem (w := Cond.codeWith yL_load cL_load 3 (some .int) [(0, 8, 11, 13), (0, 8, 14, 21)]) 965 (by decide +kernel) rfl, by decide +kernel, bw_mem (w := Cond.static yL_load) 964 (by decide +kernel) rfl⟩
theorem lkw_134 : lkW RL 134 yL_path cL_path 5 [(0, 10, 13, 19), (0, 10, 17, 13)] 4 := ⟨bw_mem (w := Cond.methodLink RL 134 yL_path) 982 (by decide +kernel) rfl, bw_mem (w := Cond.initialized RL) 91 (by decide +kernel) rfl, bw_mem (w := Cond.codeWith yL_path cL_path 5 (some .int) [(0, 10, 13, 19), (0, 10, 17, 13)]) 984 (by decide +kernel) rfl, by decide +kernel, bw_mem (w := Cond.static yL_path) 983 (by decide +kernel) rfl⟩
theorem lkw_137 : lkW RL 137 yL_arrowOf cL_arrowOf 5 [(0, 10, 13, 19)] 4 := ⟨bw_mem (w := Cond.methodLink RL 137 yL_arrowOf) 986 (by decide +kernel) rfl, bw_mem (w := Cond.initialized RL) 91 (by decide +kernel) rfl, bw_mem (w := Cond.codeWith yL_arrowOf cL_arrowOf 5 (some .int) [(0, 10, 13, 19)]) 988 (by decide +kernel) rfl, by decide +kernel, bw_mem (w := Cond.static yL_arrowOf) 987 (by decide +kernel) rfl⟩
theorem lkw_140 : lkW RL 140 yL_between cL_between 6 [(0, 12, 15, 19)] 5 := ⟨bw_mem (w := Cond.methodLink RL 140 yL_between) 994 (by decide +kernel) rfl, bw_mem (w := Cond.initialized RL) 91 (by decide +kernel) rfl, bw_mem (w := Cond.codeWith yL_between cL_between 6 (some .int) [(0, 12, 15, 19)]) 996 (by decide +kernel) rfl, by decide +kernel, bw_mem (w := Cond.static yL_between) 995 (by decide +kernel) rfl⟩
theorem lkw_144 : lkW RL 144 yL_distance cL_distance 5 [(0, 10, 13, 19)] 4 := ⟨bw_mem (w := Cond.methodLink RL 144 yL_distance) 1009 (by decide +kernel) rfl, bw_mem (w := Cond.initialized RL) 91 (by decide +kernel) rfl, bw_mem (w := Cond.codeWith yL_distance cL_distance 5 (some .int) [(0, 10, 13, 19)]) 1011 (by decide +kernel) rfl, by decide +kernel, bw_mem (w := Cond.static yL_distance) 1010 (by decide +kernel) rfl⟩
theorem lkw_147 : lkW RL 147 yL_proof cL_proof 7 [(0, 14, 17, 19), (0, 14, 21, 13), (0, 14, 25, 21)] 6 := ⟨bw_mem (w := Cond.methodLink RL 147 yL_proof) 1025 (by decide +kernel) rfl, bw_mem (w := Cond.initialized RL) 91 (by decide +kernel) rfl, bw_mem (w := Cond.codeWith yL_proof cL_proof 7 (some .int) [(0, 14, 17, 19), (0, 14, 21, 13), (0, 14, 25, 21)]) 1027 (by decide +kernel) rfl, by decide +kernel, bw_mem (w := Cond.static yL_proof) 1026 (by decide +kernel) rfl⟩
theorem lkw_151 : lkW RL 151 yL_cell cL_cell 5 [(0, 10, 13, 19), (0, 10, 17, 13)] 4 := ⟨bw_mem (w := Cond.methodLink RL 151 yL_cell) 1042 (by decide +kernel) rfl, bw_mem (w := Cond.initialized RL) 91 (by decide +kernel) rfl, bw_mem (w := Cond.codeWith yL_cell cL_cell 5 (some .int) [(0, 10, 13, 19), (0, 10, 17, 13)]) 1044 (by decide +kernel) rfl, by decide +kernel, bw_mem (w := Cond.static yL_cell) 1043 (by decide +kernel) rfl⟩
theorem lkw_154 : lkW RL 154 yL_count cL_count 4 [(0, 9, 12, 13)] 3 := ⟨bw_mem (w := Cond.methodLink RL 154 yL_count) 1046 (by decide +kernel) rfl, bw_mem (w := Cond.initialized RL) 91 (by decide +kernel) rfl, bw_mem (w := Cond.codeWith yL_count cL_count 4 (some .int) [(0, 9, 12, 13)]) 1048 (by decide +kernel) rfl, by decide +kernel, bw_mem (w := Cond.static yL_count) 1047 (by decide +kernel) rfl⟩
theorem lkw_162 : lkW RL 162 yL_setSize cL_setSize 5 [(0, 10, 13, 19), (0, 10, 17, 13)] 4 := ⟨bw_mem (w := Cond.methodLink RL 162 yL_setSize) 1050 (by decide +kernel) rfl, bw_mem (w := Cond.initialized RL) 91 (by decide +kernel) rfl, bw_mem (w := Cond.codeWith yL_setSize cL_setSize 5 (some .int) [(0, 10, 13, 19), (0, 10, 17, 13)]) 1052 (by decide +kernel) rfl, by decide +kernel, bw_mem (w := Cond.static yL_setSize) 1051 (by decide +kernel) rfl⟩
theorem lkw_165 : lkW RL 165 yL_setFunction cL_setFunction 5 [(0, 10, 13, 19), (0, 10, 17, 13)] 4 := ⟨bw_mem (w := Cond.methodLink RL 165 yL_setFunction) 1062 (by decide +kernel) rfl, bw_mem (w := Cond.initialized RL) 91 (by decide +kernel) rfl, bw_mem (w := Cond.codeWith yL_setFunction cL_setFunction 5 (some .int) [(0, 10, 13, 19), (0, 10, 17, 13)]) 1064 (by decide +kernel) rfl, by decide +kernel, bw_mem (w := Cond.static yL_setFunction) 1063 (by decide +kernel) rfl⟩
theorem lkw_168 : lkW RL 168 yL_apply cL_apply 5 [(0, 10, 13, 19), (0, 10, 17, 13)] 4 := ⟨bw_mem (w := Cond.methodLink RL 168 yL_apply) 1079 (by decide +kernel) rfl, bw_mem (w := Cond.initialized RL) 91 (by decide +kernel) rfl, bw_mem (w := Cond.codeWith yL_apply cL_apply 5 (some .int) [(0, 10, 13, 19), (0, 10, 17, 13)]) 1081 (by decide +kernel) rfl, by decide +kernel, bw_mem (w := Cond.static yL_apply) 1080 (by decide +kernel) rfl⟩
theorem lkw_171 : lkW RL 171 yL_imageShare cL_imageShare 4 [(0, 9, 12, 19)] 3 := ⟨bw_mem (w := Cond.methodLink RL 171 yL_imageShare) 1088 (by decide +kernel) rfl, bw_mem (w := Cond.initialized RL) 91 (by decide +kernel) rfl, bw_mem (w := Cond.codeWith yL_imageShare cL_imageShare 4 (some .int) [(0, 9, 12, 19)]) 1090 (by decide +kernel) rfl, by decide +kernel, bw_mem (w := Cond.static yL_imageShare) 1089 (by decide +kernel) rfl⟩
theorem lkw_174 : lkW RL 174 yL_separate cL_separate 5 [(0, 10, 13, 19), (0, 10, 17, 13), (0, 10, 21, 21)] 4 := ⟨bw_mem (w := Cond.methodLink RL 174 yL_separate) 1099 (by decide +kernel) rfl, bw_mem (w := Cond.initialized RL) 91 (by decide +kernel) rfl, bw_mem (w := Cond.codeWith yL_separate cL_separate 5 (some .int) [(0, 10, 13, 19), (0, 10, 17, 13), (0, 10, 21, 21)]) 1101 (by decide +kernel) rfl, by decide +kernel, bw_mem (w := Cond.static yL_separate) 1100 (by decide +kernel) rfl⟩
theorem lkw_177 : lkW RL 177 yL_isProduct cL_isProduct 5 [(0, 17, 20, 19), (0, 17, 24, 13)] 4 := ⟨bw_mem (w := Cond.methodLink RL 177 yL_isProduct) 1120 (by decide +kernel) rfl, bw_mem (w := Cond.initialized RL) 91 (by decide +kernel) rfl, bw_mem (w := Cond.codeWith yL_isProduct cL_isProduct 5 (some .int) [(0, 17, 20, 19), (0, 17, 24, 13)]) 1122 (by decide +kernel) rfl, by decide +kernel, bw_mem (w := Cond.static yL_isProduct) 1121 (by decide +kernel) rfl⟩
theorem lkw_180 : lkW RL 180 yL_isPullback cL_isPullback 7 [(0, 21, 24, 19), (0, 21, 28, 13)] 6 := ⟨bw_mem (w := Cond.methodLink RL 180 yL_isPullback) 1144 (by decide +kernel) rfl, bw_mem (w := Cond.initialized RL) 91 (by decide +kernel) rfl, bw_mem (w := Cond.codeWith yL_isPullback cL_isPullback 7 (some .int) [(0, 21, 24, 19), (0, 21, 28, 13)]) 1146 (by decide +kernel) rfl, by decide +kernel, bw_mem (w := Cond.static yL_isPullback) 1145 (by decide +kernel) rfl⟩
theorem lkw_183 : lkW RL 183 yL_isEqualizer cL_isEqualizer 6 [(0, 19, 22, 19), (0, 19, 26, 13)] 5 := ⟨bw_mem (w := Cond.methodLink RL 183 yL_isEqualizer) 1160 (by decide +kernel) rfl, bw_mem (w := Cond.initialized RL) 91 (by decide +kernel) rfl, bw_mem (w := Cond.codeWith yL_isEqualizer cL_isEqualizer 6 (some .int) [(0, 19, 22, 19), (0, 19, 26, 13)]) 1162 (by decide +kernel) rfl, by decide +kernel, bw_mem (w := Cond.static yL_isEqualizer) 1161 (by decide +kernel) rfl⟩
section LAWS
variable {tb : Bool} {G : GE} {own : String} {cc : ByteArray} {nL : Nat} {ret : Option FieldType} {rm : Room} {X : PX} {Q : State → Prop} {pc : Nat} {ls : List (Nat × AV)} {st : List AV} {M : Mem}
theorem g_widen {a b a' b' : Nat} (h1 : a ≤ a') (h2 : b ≤ b') (k : GW G (bump X a' b') nL Q pc ls st M) : GW G (bump X a b) nL Q pc ls st M :=
  fun o1 o2 H locs la w s h => W.widen h1 h2 (k o1 o2 H locs la w s h)
theorem g_wdB {a b : Nat} (k : GW G (bump X (a + 1) (b + 6)) nL Q pc ls st M) : GW G (bump X a b) nL Q pc ls st M := g_widen (Nat.le_add_right _ _) (Nat.le_add_right _ _) k
theorem g_callSwB {a b : Nat} (C : CX false G own cc nL ret rm (bump X a b)) {idx : Nat} {y : MethodName} {zc : ByteArray} {zl n d : Nat} {hh : List (Nat × Nat × Nat × Nat)} {x : Int32} {M1 : Mem} {As rest : List AV}
    (lk : lkW own idx y zc zl hh n) (hct : CTW X.2.1 G y zc zl hh d As M x M1) (hn : As.length = n) (hst : As.reverse ++ rest = st) (hW : csum rest ≤ 8)
    (hroom : d + 1 ≤ rm.frames ∧ 8 + (zl + 11) + 36 * d ≤ rm.locals) (hmc : a + 1 ≤ rm.cells ∧ b + 6 ≤ rm.slots) (hd : decode cc pc = .ok (.invokestatic idx, 3))
    (kr : GW G (bump X (a + 1) (b + 6)) nL Q (pc + 3) ls (vI x :: rest) M1) : GW G (bump X a b) nL Q pc ls st M := g_callSw C lk hct hn hst hW hroom hmc hd kr
theorem law_l4 {l4 : Int32} {k : Nat} (hk : l4 = nI (5 * k)) : l4 + (5 : Int32) = nI (5 * (k + 1)) := by
  rw [hk, show (5 : Int32) = nI 5 from rfl, nI_add, Nat.mul_succ]
theorem law_kL {L k : Nat} {l4 : Int32} (hL : L ≤ 2560) (hk : l4 = nI (5 * k)) (h : ¬ (nI L - (5 : Int32) < l4)) : 5 * k + 5 ≤ L ∨ 2 ^ 20 < k := by
  by_cases hb : k ≤ 2 ^ 20
  · left
    rw [hk, show (5 : Int32) = nI 5 from rfl, Int32.lt_iff_toInt_lt, pk_sub_toInt (by omega) (by omega), nI_toInt (by omega)] at h
    omega
  · exact Or.inr (by omega)
theorem iv_p5 (x : Int32) : x + Int32.ofInt 5 = x + (5 : Int32) := by rw [show Int32.ofInt 5 = (5 : Int32) from by decide]
end LAWS
def f_L_law_j1751 (fu : Nat) (L : Nat) (xs : Nat → Int32)  (l4 : Int32)  (M : Mem) : Option ((Int32 × Mem) ⊕ ((Mem) ⊕ (Int32 × Mem))) :=
  some (Sum.inl (l4 + (5 : Int32), M))
def f_L_law_j213 (fu : Nat) (L : Nat) (xs : Nat → Int32)  (l4 : Int32)  (M : Mem) : Option ((Int32 × Mem) ⊕ ((Mem) ⊕ (Int32 × Mem))) :=
  f_L_law_j1751 fu L xs l4 M
def f_L_law_j281 (fu : Nat) (L : Nat) (xs : Nat → Int32)  (l4 : Int32)  (M : Mem) : Option ((Int32 × Mem) ⊕ ((Mem) ⊕ (Int32 × Mem))) :=
  f_L_law_j1751 fu L xs l4 M
def f_L_law_j325 (fu : Nat) (L : Nat) (xs : Nat → Int32)  (l4 : Int32)  (M : Mem) : Option ((Int32 × Mem) ⊕ ((Mem) ⊕ (Int32 × Mem))) :=
  f_L_law_j1751 fu L xs l4 M
def f_L_law_j393 (fu : Nat) (L : Nat) (xs : Nat → Int32)  (l4 : Int32)  (M : Mem) : Option ((Int32 × Mem) ⊕ ((Mem) ⊕ (Int32 × Mem))) :=
  f_L_law_j1751 fu L xs l4 M
def f_L_law_j449 (fu : Nat) (L : Nat) (xs : Nat → Int32)  (l4 : Int32)  (M : Mem) : Option ((Int32 × Mem) ⊕ ((Mem) ⊕ (Int32 × Mem))) :=
  f_L_law_j1751 fu L xs l4 M
def f_L_law_j505 (fu : Nat) (L : Nat) (xs : Nat → Int32)  (l4 : Int32)  (M : Mem) : Option ((Int32 × Mem) ⊕ ((Mem) ⊕ (Int32 × Mem))) :=
  f_L_law_j1751 fu L xs l4 M
def f_L_law_j575 (fu : Nat) (L : Nat) (xs : Nat → Int32)  (l4 : Int32)  (M : Mem) : Option ((Int32 × Mem) ⊕ ((Mem) ⊕ (Int32 × Mem))) :=
  f_L_law_j1751 fu L xs l4 M
def f_L_law_j656 (fu : Nat) (L : Nat) (xs : Nat → Int32)  (l4 : Int32)  (M : Mem) : Option ((Int32 × Mem) ⊕ ((Mem) ⊕ (Int32 × Mem))) :=
  f_L_law_j1751 fu L xs l4 M
def f_L_law_j724 (fu : Nat) (L : Nat) (xs : Nat → Int32)  (l4 : Int32)  (M : Mem) : Option ((Int32 × Mem) ⊕ ((Mem) ⊕ (Int32 × Mem))) :=
  f_L_law_j1751 fu L xs l4 M
def f_L_law_j820 (fu : Nat) (L : Nat) (xs : Nat → Int32)  (l4 : Int32)  (M : Mem) : Option ((Int32 × Mem) ⊕ ((Mem) ⊕ (Int32 × Mem))) :=
  f_L_law_j1751 fu L xs l4 M
def f_L_law_j787 (fu : Nat) (L : Nat) (xs : Nat → Int32)  (l4 : Int32) (l5 : Int32) (t1 : Int32) (t2 : Int32) (t3 : Int32) (M : Mem) : Option ((Int32 × Mem) ⊕ ((Mem) ⊕ (Int32 × Mem))) :=
  (f_X10_between fu t1 t2 t3 M).bind (fun r787 => (f_X10_thrown fu  r787.2).bind (fun r793 => if r793.1 = l5 then if l5 = 0 then if inb (0 : Int32) (alen 23 0) then if (lg_cmp (r793.2.2 23 0 (0 : Int32).toNatClampNeg) r787.1.toInt64) = 0 then f_L_law_j820 fu L xs l4 r793.2 else some (Sum.inr (Sum.inr ((0 : Int32), r793.2))) else none else f_L_law_j820 fu L xs l4 r793.2 else some (Sum.inr (Sum.inr ((0 : Int32), r793.2)))))
def f_L_law_j754 (fu : Nat) (L : Nat) (xs : Nat → Int32)  (l4 : Int32) (t1 : Int32) (t2 : Int32) (t3 : Int32) (M : Mem) : Option ((Int32 × Mem) ⊕ ((Mem) ⊕ (Int32 × Mem))) :=
  (f_L_between fu t1 t2 t3 M).bind (fun r755 => if inb (l4 + (1 : Int32)) L then if inb (l4 + (2 : Int32)) L then if inb (l4 + (3 : Int32)) L then if (xs (l4 + (3 : Int32)).toNatClampNeg) = 0 then f_L_law_j787 fu L xs l4 r755.1 (xs (l4 + (1 : Int32)).toNatClampNeg) (xs (l4 + (2 : Int32)).toNatClampNeg) (0 : Int32) r755.2 else f_L_law_j787 fu L xs l4 r755.1 (xs (l4 + (1 : Int32)).toNatClampNeg) (xs (l4 + (2 : Int32)).toNatClampNeg) (1 : Int32) r755.2 else none else none else none)
def f_L_law_j888 (fu : Nat) (L : Nat) (xs : Nat → Int32)  (l4 : Int32)  (M : Mem) : Option ((Int32 × Mem) ⊕ ((Mem) ⊕ (Int32 × Mem))) :=
  f_L_law_j1751 fu L xs l4 M
def f_L_law_j980 (fu : Nat) (L : Nat) (xs : Nat → Int32)  (l4 : Int32)  (M : Mem) : Option ((Int32 × Mem) ⊕ ((Mem) ⊕ (Int32 × Mem))) :=
  f_L_law_j1751 fu L xs l4 M
def f_L_law_j1048 (fu : Nat) (L : Nat) (xs : Nat → Int32)  (l4 : Int32)  (M : Mem) : Option ((Int32 × Mem) ⊕ ((Mem) ⊕ (Int32 × Mem))) :=
  f_L_law_j1751 fu L xs l4 M
def f_L_law_j1104 (fu : Nat) (L : Nat) (xs : Nat → Int32)  (l4 : Int32)  (M : Mem) : Option ((Int32 × Mem) ⊕ ((Mem) ⊕ (Int32 × Mem))) :=
  f_L_law_j1751 fu L xs l4 M
def f_L_law_j1145 (fu : Nat) (L : Nat) (xs : Nat → Int32)  (l4 : Int32)  (M : Mem) : Option ((Int32 × Mem) ⊕ ((Mem) ⊕ (Int32 × Mem))) :=
  f_L_law_j1751 fu L xs l4 M
def f_L_law_j1213 (fu : Nat) (L : Nat) (xs : Nat → Int32)  (l4 : Int32)  (M : Mem) : Option ((Int32 × Mem) ⊕ ((Mem) ⊕ (Int32 × Mem))) :=
  f_L_law_j1751 fu L xs l4 M
def f_L_law_j1281 (fu : Nat) (L : Nat) (xs : Nat → Int32)  (l4 : Int32)  (M : Mem) : Option ((Int32 × Mem) ⊕ ((Mem) ⊕ (Int32 × Mem))) :=
  f_L_law_j1751 fu L xs l4 M
def f_L_law_j1349 (fu : Nat) (L : Nat) (xs : Nat → Int32)  (l4 : Int32)  (M : Mem) : Option ((Int32 × Mem) ⊕ ((Mem) ⊕ (Int32 × Mem))) :=
  f_L_law_j1751 fu L xs l4 M
def f_L_law_j1405 (fu : Nat) (L : Nat) (xs : Nat → Int32)  (l4 : Int32)  (M : Mem) : Option ((Int32 × Mem) ⊕ ((Mem) ⊕ (Int32 × Mem))) :=
  f_L_law_j1751 fu L xs l4 M
def f_L_law_j1473 (fu : Nat) (L : Nat) (xs : Nat → Int32)  (l4 : Int32)  (M : Mem) : Option ((Int32 × Mem) ⊕ ((Mem) ⊕ (Int32 × Mem))) :=
  f_L_law_j1751 fu L xs l4 M
def f_L_law_j1548 (fu : Nat) (L : Nat) (xs : Nat → Int32)  (l4 : Int32)  (M : Mem) : Option ((Int32 × Mem) ⊕ ((Mem) ⊕ (Int32 × Mem))) :=
  f_L_law_j1751 fu L xs l4 M
def f_L_law_j1542 (fu : Nat) (L : Nat) (xs : Nat → Int32)  (l4 : Int32) (t0 : Int64) (t1 : Int64) (M : Mem) : Option ((Int32 × Mem) ⊕ ((Mem) ⊕ (Int32 × Mem))) :=
  if (lg_cmp t0 t1) = 0 then f_L_law_j1548 fu L xs l4 M else some (Sum.inr (Sum.inr ((0 : Int32), M)))
def f_L_law_j1647 (fu : Nat) (L : Nat) (xs : Nat → Int32)  (l4 : Int32)  (M : Mem) : Option ((Int32 × Mem) ⊕ ((Mem) ⊕ (Int32 × Mem))) :=
  f_L_law_j1751 fu L xs l4 M
def f_L_law_j1641 (fu : Nat) (L : Nat) (xs : Nat → Int32)  (l4 : Int32) (t0 : Int64) (t1 : Int64) (M : Mem) : Option ((Int32 × Mem) ⊕ ((Mem) ⊕ (Int32 × Mem))) :=
  if (lg_cmp t0 t1) = 0 then f_L_law_j1647 fu L xs l4 M else some (Sum.inr (Sum.inr ((0 : Int32), M)))
def f_L_law_j1734 (fu : Nat) (L : Nat) (xs : Nat → Int32)  (l4 : Int32)  (M : Mem) : Option ((Int32 × Mem) ⊕ ((Mem) ⊕ (Int32 × Mem))) :=
  f_L_law_j1751 fu L xs l4 M
def f_L_law_j1728 (fu : Nat) (L : Nat) (xs : Nat → Int32)  (l4 : Int32) (t0 : Int64) (t1 : Int64) (M : Mem) : Option ((Int32 × Mem) ⊕ ((Mem) ⊕ (Int32 × Mem))) :=
  if (lg_cmp t0 t1) = 0 then f_L_law_j1734 fu L xs l4 M else some (Sum.inr (Sum.inr ((0 : Int32), M)))
def f_L_law_b23 (fu : Nat) (L : Nat) (xs : Nat → Int32) (l4 : Int32) (M : Mem) : Option ((Int32 × Mem) ⊕ ((Mem) ⊕ (Int32 × Mem))) :=
  if ((nI L) - (5 : Int32)) < l4 then some (Sum.inr (Sum.inl M)) else if inb l4 L then if ((xs l4.toNatClampNeg) &&& (31 : Int32)) = (0 : Int32) then if inb (l4 + (1 : Int32)) L then (f_L_begin fu (xs (l4 + (1 : Int32)).toNatClampNeg) M).bind (fun r168 => if inb (l4 + (1 : Int32)) L then (f_X10_begin fu (xs (l4 + (1 : Int32)).toNatClampNeg) r168.2).bind (fun r180 => (f_X10_thrown fu  r180.2).bind (fun r186 => if r186.1 = r168.1 then if r168.1 = 0 then if inb (0 : Int32) (alen 23 0) then if (lg_cmp (r186.2.2 23 0 (0 : Int32).toNatClampNeg) r180.1.toInt64) = 0 then f_L_law_j213 fu L xs l4 r186.2 else some (Sum.inr (Sum.inr ((0 : Int32), r186.2))) else none else f_L_law_j213 fu L xs l4 r186.2 else some (Sum.inr (Sum.inr ((0 : Int32), r186.2))))) else none) else none else if ((xs l4.toNatClampNeg) &&& (31 : Int32)) = (1 : Int32) then if inb (l4 + (1 : Int32)) L then if inb (l4 + (2 : Int32)) L then (f_L_addArrow fu (xs (l4 + (1 : Int32)).toNatClampNeg) (xs (l4 + (2 : Int32)).toNatClampNeg) M).bind (fun r230 => if inb (l4 + (1 : Int32)) L then if inb (l4 + (2 : Int32)) L then (f_X10_addArrow fu (xs (l4 + (1 : Int32)).toNatClampNeg) (xs (l4 + (2 : Int32)).toNatClampNeg) r230.2).bind (fun r248 => (f_X10_thrown fu  r248.2).bind (fun r254 => if r254.1 = r230.1 then if r230.1 = 0 then if inb (0 : Int32) (alen 23 0) then if (lg_cmp (r254.2.2 23 0 (0 : Int32).toNatClampNeg) r248.1.toInt64) = 0 then f_L_law_j281 fu L xs l4 r254.2 else some (Sum.inr (Sum.inr ((0 : Int32), r254.2))) else none else f_L_law_j281 fu L xs l4 r254.2 else some (Sum.inr (Sum.inr ((0 : Int32), r254.2))))) else none else none) else none else none else if ((xs l4.toNatClampNeg) &&& (31 : Int32)) = (2 : Int32) then (f_L_dropArrow fu  M).bind (fun r286 => (f_X10_dropArrow fu  r286.2).bind (fun r292 => (f_X10_thrown fu  r292.2).bind (fun r298 => if r298.1 = r286.1 then if r286.1 = 0 then if inb (0 : Int32) (alen 23 0) then if (lg_cmp (r298.2.2 23 0 (0 : Int32).toNatClampNeg) r292.1.toInt64) = 0 then f_L_law_j325 fu L xs l4 r298.2 else some (Sum.inr (Sum.inr ((0 : Int32), r298.2))) else none else f_L_law_j325 fu L xs l4 r298.2 else some (Sum.inr (Sum.inr ((0 : Int32), r298.2)))))) else if ((xs l4.toNatClampNeg) &&& (31 : Int32)) = (3 : Int32) then if inb (l4 + (1 : Int32)) L then if inb (l4 + (2 : Int32)) L then (f_L_addCell fu (xs (l4 + (1 : Int32)).toNatClampNeg) (xs (l4 + (2 : Int32)).toNatClampNeg) M).bind (fun r342 => if inb (l4 + (1 : Int32)) L then if inb (l4 + (2 : Int32)) L then (f_X10_addCell fu (xs (l4 + (1 : Int32)).toNatClampNeg) (xs (l4 + (2 : Int32)).toNatClampNeg) r342.2).bind (fun r360 => (f_X10_thrown fu  r360.2).bind (fun r366 => if r366.1 = r342.1 then if r342.1 = 0 then if inb (0 : Int32) (alen 23 0) then if (lg_cmp (r366.2.2 23 0 (0 : Int32).toNatClampNeg) r360.1.toInt64) = 0 then f_L_law_j393 fu L xs l4 r366.2 else some (Sum.inr (Sum.inr ((0 : Int32), r366.2))) else none else f_L_law_j393 fu L xs l4 r366.2 else some (Sum.inr (Sum.inr ((0 : Int32), r366.2))))) else none else none) else none else none else if ((xs l4.toNatClampNeg) &&& (31 : Int32)) = (4 : Int32) then if inb (l4 + (1 : Int32)) L then (f_L_dropCell fu (xs (l4 + (1 : Int32)).toNatClampNeg) M).bind (fun r404 => if inb (l4 + (1 : Int32)) L then (f_X10_dropCell fu (xs (l4 + (1 : Int32)).toNatClampNeg) r404.2).bind (fun r416 => (f_X10_thrown fu  r416.2).bind (fun r422 => if r422.1 = r404.1 then if r404.1 = 0 then if inb (0 : Int32) (alen 23 0) then if (lg_cmp (r422.2.2 23 0 (0 : Int32).toNatClampNeg) r416.1.toInt64) = 0 then f_L_law_j449 fu L xs l4 r422.2 else some (Sum.inr (Sum.inr ((0 : Int32), r422.2))) else none else f_L_law_j449 fu L xs l4 r422.2 else some (Sum.inr (Sum.inr ((0 : Int32), r422.2))))) else none) else none else if ((xs l4.toNatClampNeg) &&& (31 : Int32)) = (5 : Int32) then if inb (l4 + (1 : Int32)) L then (f_L_append fu (xs (l4 + (1 : Int32)).toNatClampNeg) M).bind (fun r460 => if inb (l4 + (1 : Int32)) L then (f_X10_append fu (xs (l4 + (1 : Int32)).toNatClampNeg) r460.2).bind (fun r472 => (f_X10_thrown fu  r472.2).bind (fun r478 => if r478.1 = r460.1 then if r460.1 = 0 then if inb (0 : Int32) (alen 23 0) then if (lg_cmp (r478.2.2 23 0 (0 : Int32).toNatClampNeg) r472.1.toInt64) = 0 then f_L_law_j505 fu L xs l4 r478.2 else some (Sum.inr (Sum.inr ((0 : Int32), r478.2))) else none else f_L_law_j505 fu L xs l4 r478.2 else some (Sum.inr (Sum.inr ((0 : Int32), r478.2))))) else none) else none else if ((xs l4.toNatClampNeg) &&& (31 : Int32)) = (6 : Int32) then (f_X9_clearInput fu  M).bind (fun r509 => (f_X10_clearInput fu  r509.2).bind (fun r513 => if r509.1 = r513.1 then f_L_law_j1751 fu L xs l4 r513.2 else some (Sum.inr (Sum.inr ((0 : Int32), r513.2))))) else if ((xs l4.toNatClampNeg) &&& (31 : Int32)) = (7 : Int32) then (f_X9_firstError fu  M).bind (fun r522 => (f_X10_firstError fu  r522.2).bind (fun r526 => if r522.1 = r526.1 then f_L_law_j1751 fu L xs l4 r526.2 else some (Sum.inr (Sum.inr ((0 : Int32), r526.2))))) else if ((xs l4.toNatClampNeg) &&& (31 : Int32)) = (8 : Int32) then (f_L_load fu  M).bind (fun r536 => (f_X10_load fu  r536.2).bind (fun r542 => (f_X10_thrown fu  r542.2).bind (fun r548 => if r548.1 = r536.1 then if r536.1 = 0 then if inb (0 : Int32) (alen 23 0) then if (lg_cmp (r548.2.2 23 0 (0 : Int32).toNatClampNeg) r542.1.toInt64) = 0 then f_L_law_j575 fu L xs l4 r548.2 else some (Sum.inr (Sum.inr ((0 : Int32), r548.2))) else none else f_L_law_j575 fu L xs l4 r548.2 else some (Sum.inr (Sum.inr ((0 : Int32), r548.2)))))) else if ((xs l4.toNatClampNeg) &&& (31 : Int32)) = (9 : Int32) then (f_X9_find fu  M).bind (fun r579 => (f_X10_find fu  r579.2).bind (fun r583 => if r579.1 = r583.1 then f_L_law_j1751 fu L xs l4 r583.2 else some (Sum.inr (Sum.inr ((0 : Int32), r583.2))))) else if ((xs l4.toNatClampNeg) &&& (31 : Int32)) = (10 : Int32) then if inb (l4 + (1 : Int32)) L then if inb (l4 + (2 : Int32)) L then (f_L_path fu (xs (l4 + (1 : Int32)).toNatClampNeg) (xs (l4 + (2 : Int32)).toNatClampNeg) M).bind (fun r605 => if inb (l4 + (1 : Int32)) L then if inb (l4 + (2 : Int32)) L then (f_X10_path fu (xs (l4 + (1 : Int32)).toNatClampNeg) (xs (l4 + (2 : Int32)).toNatClampNeg) r605.2).bind (fun r623 => (f_X10_thrown fu  r623.2).bind (fun r629 => if r629.1 = r605.1 then if r605.1 = 0 then if inb (0 : Int32) (alen 23 0) then if (lg_cmp (r629.2.2 23 0 (0 : Int32).toNatClampNeg) r623.1.toInt64) = 0 then f_L_law_j656 fu L xs l4 r629.2 else some (Sum.inr (Sum.inr ((0 : Int32), r629.2))) else none else f_L_law_j656 fu L xs l4 r629.2 else some (Sum.inr (Sum.inr ((0 : Int32), r629.2))))) else none else none) else none else none else if ((xs l4.toNatClampNeg) &&& (31 : Int32)) = (11 : Int32) then if inb (l4 + (1 : Int32)) L then if inb (l4 + (2 : Int32)) L then (f_L_arrowOf fu (xs (l4 + (1 : Int32)).toNatClampNeg) (xs (l4 + (2 : Int32)).toNatClampNeg) M).bind (fun r673 => if inb (l4 + (1 : Int32)) L then if inb (l4 + (2 : Int32)) L then (f_X10_arrowOf fu (xs (l4 + (1 : Int32)).toNatClampNeg) (xs (l4 + (2 : Int32)).toNatClampNeg) r673.2).bind (fun r691 => (f_X10_thrown fu  r691.2).bind (fun r697 => if r697.1 = r673.1 then if r673.1 = 0 then if inb (0 : Int32) (alen 23 0) then if (lg_cmp (r697.2.2 23 0 (0 : Int32).toNatClampNeg) r691.1.toInt64) = 0 then f_L_law_j724 fu L xs l4 r697.2 else some (Sum.inr (Sum.inr ((0 : Int32), r697.2))) else none else f_L_law_j724 fu L xs l4 r697.2 else some (Sum.inr (Sum.inr ((0 : Int32), r697.2))))) else none else none) else none else none else if ((xs l4.toNatClampNeg) &&& (31 : Int32)) = (12 : Int32) then if inb (l4 + (1 : Int32)) L then if inb (l4 + (2 : Int32)) L then if inb (l4 + (3 : Int32)) L then if (xs (l4 + (3 : Int32)).toNatClampNeg) = 0 then f_L_law_j754 fu L xs l4 (xs (l4 + (1 : Int32)).toNatClampNeg) (xs (l4 + (2 : Int32)).toNatClampNeg) (0 : Int32) M else f_L_law_j754 fu L xs l4 (xs (l4 + (1 : Int32)).toNatClampNeg) (xs (l4 + (2 : Int32)).toNatClampNeg) (1 : Int32) M else none else none else none else if ((xs l4.toNatClampNeg) &&& (31 : Int32)) = (13 : Int32) then if inb (l4 + (1 : Int32)) L then if inb (l4 + (2 : Int32)) L then (f_L_distance fu (xs (l4 + (1 : Int32)).toNatClampNeg) (xs (l4 + (2 : Int32)).toNatClampNeg) M).bind (fun r837 => if inb (l4 + (1 : Int32)) L then if inb (l4 + (2 : Int32)) L then (f_X10_distance fu (xs (l4 + (1 : Int32)).toNatClampNeg) (xs (l4 + (2 : Int32)).toNatClampNeg) r837.2).bind (fun r855 => (f_X10_thrown fu  r855.2).bind (fun r861 => if r861.1 = r837.1 then if r837.1 = 0 then if inb (0 : Int32) (alen 23 0) then if (lg_cmp (r861.2.2 23 0 (0 : Int32).toNatClampNeg) r855.1.toInt64) = 0 then f_L_law_j888 fu L xs l4 r861.2 else some (Sum.inr (Sum.inr ((0 : Int32), r861.2))) else none else f_L_law_j888 fu L xs l4 r861.2 else some (Sum.inr (Sum.inr ((0 : Int32), r861.2))))) else none else none) else none else none else if ((xs l4.toNatClampNeg) &&& (31 : Int32)) = (14 : Int32) then if inb (l4 + (1 : Int32)) L then if inb (l4 + (2 : Int32)) L then if inb (l4 + (3 : Int32)) L then if inb (l4 + (4 : Int32)) L then (f_L_proof fu (xs (l4 + (1 : Int32)).toNatClampNeg) (xs (l4 + (2 : Int32)).toNatClampNeg) (xs (l4 + (3 : Int32)).toNatClampNeg) (xs (l4 + (4 : Int32)).toNatClampNeg) M).bind (fun r917 => if inb (l4 + (1 : Int32)) L then if inb (l4 + (2 : Int32)) L then if inb (l4 + (3 : Int32)) L then if inb (l4 + (4 : Int32)) L then (f_X10_proof fu (xs (l4 + (1 : Int32)).toNatClampNeg) (xs (l4 + (2 : Int32)).toNatClampNeg) (xs (l4 + (3 : Int32)).toNatClampNeg) (xs (l4 + (4 : Int32)).toNatClampNeg) r917.2).bind (fun r947 => (f_X10_thrown fu  r947.2).bind (fun r953 => if r953.1 = r917.1 then if r917.1 = 0 then if inb (0 : Int32) (alen 23 0) then if (lg_cmp (r953.2.2 23 0 (0 : Int32).toNatClampNeg) r947.1.toInt64) = 0 then f_L_law_j980 fu L xs l4 r953.2 else some (Sum.inr (Sum.inr ((0 : Int32), r953.2))) else none else f_L_law_j980 fu L xs l4 r953.2 else some (Sum.inr (Sum.inr ((0 : Int32), r953.2))))) else none else none else none else none) else none else none else none else none else if ((xs l4.toNatClampNeg) &&& (31 : Int32)) = (15 : Int32) then if inb (l4 + (1 : Int32)) L then if inb (l4 + (2 : Int32)) L then (f_L_cell fu (xs (l4 + (1 : Int32)).toNatClampNeg) (xs (l4 + (2 : Int32)).toNatClampNeg) M).bind (fun r997 => if inb (l4 + (1 : Int32)) L then if inb (l4 + (2 : Int32)) L then (f_X10_cell fu (xs (l4 + (1 : Int32)).toNatClampNeg) (xs (l4 + (2 : Int32)).toNatClampNeg) r997.2).bind (fun r1015 => (f_X10_thrown fu  r1015.2).bind (fun r1021 => if r1021.1 = r997.1 then if r997.1 = 0 then if inb (0 : Int32) (alen 23 0) then if (lg_cmp (r1021.2.2 23 0 (0 : Int32).toNatClampNeg) r1015.1.toInt64) = 0 then f_L_law_j1048 fu L xs l4 r1021.2 else some (Sum.inr (Sum.inr ((0 : Int32), r1021.2))) else none else f_L_law_j1048 fu L xs l4 r1021.2 else some (Sum.inr (Sum.inr ((0 : Int32), r1021.2))))) else none else none) else none else none else if ((xs l4.toNatClampNeg) &&& (31 : Int32)) = (16 : Int32) then if inb (l4 + (1 : Int32)) L then (f_L_count fu (xs (l4 + (1 : Int32)).toNatClampNeg) M).bind (fun r1059 => if inb (l4 + (1 : Int32)) L then (f_X10_count fu (xs (l4 + (1 : Int32)).toNatClampNeg) r1059.2).bind (fun r1071 => (f_X10_thrown fu  r1071.2).bind (fun r1077 => if r1077.1 = r1059.1 then if r1059.1 = 0 then if inb (0 : Int32) (alen 23 0) then if (lg_cmp (r1077.2.2 23 0 (0 : Int32).toNatClampNeg) r1071.1.toInt64) = 0 then f_L_law_j1104 fu L xs l4 r1077.2 else some (Sum.inr (Sum.inr ((0 : Int32), r1077.2))) else none else f_L_law_j1104 fu L xs l4 r1077.2 else some (Sum.inr (Sum.inr ((0 : Int32), r1077.2))))) else none) else none else if ((xs l4.toNatClampNeg) &&& (31 : Int32)) = (17 : Int32) then (f_X9_commuting fu  M).bind (fun r1108 => (f_X10_commuting fu  r1108.2).bind (fun r1114 => if (Op.cmpValue (FP.dcmp r1108.1 r1114.1) .l) = 0 then f_L_law_j1145 fu L xs l4 r1114.2 else if (Op.cmpValue (FP.dcmp r1108.1 r1108.1) .l) = 0 then some (Sum.inr (Sum.inr ((0 : Int32), r1114.2))) else if (Op.cmpValue (FP.dcmp r1114.1 r1114.1) .l) = 0 then some (Sum.inr (Sum.inr ((0 : Int32), r1114.2))) else f_L_law_j1145 fu L xs l4 r1114.2)) else if ((xs l4.toNatClampNeg) &&& (31 : Int32)) = (18 : Int32) then if inb (l4 + (1 : Int32)) L then if inb (l4 + (2 : Int32)) L then (f_L_setSize fu (xs (l4 + (1 : Int32)).toNatClampNeg) (xs (l4 + (2 : Int32)).toNatClampNeg) M).bind (fun r1162 => if inb (l4 + (1 : Int32)) L then if inb (l4 + (2 : Int32)) L then (f_X10_setSize fu (xs (l4 + (1 : Int32)).toNatClampNeg) (xs (l4 + (2 : Int32)).toNatClampNeg) r1162.2).bind (fun r1180 => (f_X10_thrown fu  r1180.2).bind (fun r1186 => if r1186.1 = r1162.1 then if r1162.1 = 0 then if inb (0 : Int32) (alen 23 0) then if (lg_cmp (r1186.2.2 23 0 (0 : Int32).toNatClampNeg) r1180.1.toInt64) = 0 then f_L_law_j1213 fu L xs l4 r1186.2 else some (Sum.inr (Sum.inr ((0 : Int32), r1186.2))) else none else f_L_law_j1213 fu L xs l4 r1186.2 else some (Sum.inr (Sum.inr ((0 : Int32), r1186.2))))) else none else none) else none else none else if ((xs l4.toNatClampNeg) &&& (31 : Int32)) = (19 : Int32) then if inb (l4 + (1 : Int32)) L then if inb (l4 + (2 : Int32)) L then (f_L_setFunction fu (xs (l4 + (1 : Int32)).toNatClampNeg) (xs (l4 + (2 : Int32)).toNatClampNeg) M).bind (fun r1230 => if inb (l4 + (1 : Int32)) L then if inb (l4 + (2 : Int32)) L then (f_X10_setFunction fu (xs (l4 + (1 : Int32)).toNatClampNeg) (xs (l4 + (2 : Int32)).toNatClampNeg) r1230.2).bind (fun r1248 => (f_X10_thrown fu  r1248.2).bind (fun r1254 => if r1254.1 = r1230.1 then if r1230.1 = 0 then if inb (0 : Int32) (alen 23 0) then if (lg_cmp (r1254.2.2 23 0 (0 : Int32).toNatClampNeg) r1248.1.toInt64) = 0 then f_L_law_j1281 fu L xs l4 r1254.2 else some (Sum.inr (Sum.inr ((0 : Int32), r1254.2))) else none else f_L_law_j1281 fu L xs l4 r1254.2 else some (Sum.inr (Sum.inr ((0 : Int32), r1254.2))))) else none else none) else none else none else if ((xs l4.toNatClampNeg) &&& (31 : Int32)) = (20 : Int32) then if inb (l4 + (1 : Int32)) L then if inb (l4 + (2 : Int32)) L then (f_L_apply fu (xs (l4 + (1 : Int32)).toNatClampNeg) (xs (l4 + (2 : Int32)).toNatClampNeg) M).bind (fun r1298 => if inb (l4 + (1 : Int32)) L then if inb (l4 + (2 : Int32)) L then (f_X10_apply fu (xs (l4 + (1 : Int32)).toNatClampNeg) (xs (l4 + (2 : Int32)).toNatClampNeg) r1298.2).bind (fun r1316 => (f_X10_thrown fu  r1316.2).bind (fun r1322 => if r1322.1 = r1298.1 then if r1298.1 = 0 then if inb (0 : Int32) (alen 23 0) then if (lg_cmp (r1322.2.2 23 0 (0 : Int32).toNatClampNeg) r1316.1.toInt64) = 0 then f_L_law_j1349 fu L xs l4 r1322.2 else some (Sum.inr (Sum.inr ((0 : Int32), r1322.2))) else none else f_L_law_j1349 fu L xs l4 r1322.2 else some (Sum.inr (Sum.inr ((0 : Int32), r1322.2))))) else none else none) else none else none else if ((xs l4.toNatClampNeg) &&& (31 : Int32)) = (21 : Int32) then if inb (l4 + (1 : Int32)) L then (f_L_imageShare fu (xs (l4 + (1 : Int32)).toNatClampNeg) M).bind (fun r1360 => if inb (l4 + (1 : Int32)) L then (f_X10_imageShare fu (xs (l4 + (1 : Int32)).toNatClampNeg) r1360.2).bind (fun r1372 => (f_X10_thrown fu  r1372.2).bind (fun r1378 => if r1378.1 = r1360.1 then if r1360.1 = 0 then if inb (0 : Int32) (alen 23 0) then if (lg_cmp (r1378.2.2 23 0 (0 : Int32).toNatClampNeg) r1372.1.toInt64) = 0 then f_L_law_j1405 fu L xs l4 r1378.2 else some (Sum.inr (Sum.inr ((0 : Int32), r1378.2))) else none else f_L_law_j1405 fu L xs l4 r1378.2 else some (Sum.inr (Sum.inr ((0 : Int32), r1378.2))))) else none) else none else if ((xs l4.toNatClampNeg) &&& (31 : Int32)) = (22 : Int32) then if inb (l4 + (1 : Int32)) L then if inb (l4 + (2 : Int32)) L then (f_L_separate fu (xs (l4 + (1 : Int32)).toNatClampNeg) (xs (l4 + (2 : Int32)).toNatClampNeg) M).bind (fun r1422 => if inb (l4 + (1 : Int32)) L then if inb (l4 + (2 : Int32)) L then (f_X10_separate fu (xs (l4 + (1 : Int32)).toNatClampNeg) (xs (l4 + (2 : Int32)).toNatClampNeg) r1422.2).bind (fun r1440 => (f_X10_thrown fu  r1440.2).bind (fun r1446 => if r1446.1 = r1422.1 then if r1422.1 = 0 then if inb (0 : Int32) (alen 23 0) then if (lg_cmp (r1446.2.2 23 0 (0 : Int32).toNatClampNeg) r1440.1.toInt64) = 0 then f_L_law_j1473 fu L xs l4 r1446.2 else some (Sum.inr (Sum.inr ((0 : Int32), r1446.2))) else none else f_L_law_j1473 fu L xs l4 r1446.2 else some (Sum.inr (Sum.inr ((0 : Int32), r1446.2))))) else none else none) else none else none else if ((xs l4.toNatClampNeg) &&& (31 : Int32)) = (23 : Int32) then if inb (l4 + (1 : Int32)) L then if inb (l4 + (2 : Int32)) L then (f_L_isProduct fu (xs (l4 + (1 : Int32)).toNatClampNeg) (xs (l4 + (2 : Int32)).toNatClampNeg) M).bind (fun r1490 => if inb (l4 + (1 : Int32)) L then if inb (l4 + (2 : Int32)) L then (f_X10_isProduct fu (xs (l4 + (1 : Int32)).toNatClampNeg) (xs (l4 + (2 : Int32)).toNatClampNeg) r1490.2).bind (fun r1508 => (f_X10_thrown fu  r1508.2).bind (fun r1514 => if r1514.1 = r1490.1 then if r1490.1 = 0 then if inb (0 : Int32) (alen 23 0) then if r1508.1 = 0 then f_L_law_j1542 fu L xs l4 (r1514.2.2 23 0 (0 : Int32).toNatClampNeg) (0 : Int64) r1514.2 else f_L_law_j1542 fu L xs l4 (r1514.2.2 23 0 (0 : Int32).toNatClampNeg) (1 : Int64) r1514.2 else none else f_L_law_j1548 fu L xs l4 r1514.2 else some (Sum.inr (Sum.inr ((0 : Int32), r1514.2))))) else none else none) else none else none else if ((xs l4.toNatClampNeg) &&& (31 : Int32)) = (24 : Int32) then if inb (l4 + (1 : Int32)) L then if inb (l4 + (2 : Int32)) L then if inb (l4 + (3 : Int32)) L then if inb (l4 + (4 : Int32)) L then (f_L_isPullback fu (xs (l4 + (1 : Int32)).toNatClampNeg) (xs (l4 + (2 : Int32)).toNatClampNeg) (xs (l4 + (3 : Int32)).toNatClampNeg) (xs (l4 + (4 : Int32)).toNatClampNeg) M).bind (fun r1577 => if inb (l4 + (1 : Int32)) L then if inb (l4 + (2 : Int32)) L then if inb (l4 + (3 : Int32)) L then if inb (l4 + (4 : Int32)) L then (f_X10_isPullback fu (xs (l4 + (1 : Int32)).toNatClampNeg) (xs (l4 + (2 : Int32)).toNatClampNeg) (xs (l4 + (3 : Int32)).toNatClampNeg) (xs (l4 + (4 : Int32)).toNatClampNeg) r1577.2).bind (fun r1607 => (f_X10_thrown fu  r1607.2).bind (fun r1613 => if r1613.1 = r1577.1 then if r1577.1 = 0 then if inb (0 : Int32) (alen 23 0) then if r1607.1 = 0 then f_L_law_j1641 fu L xs l4 (r1613.2.2 23 0 (0 : Int32).toNatClampNeg) (0 : Int64) r1613.2 else f_L_law_j1641 fu L xs l4 (r1613.2.2 23 0 (0 : Int32).toNatClampNeg) (1 : Int64) r1613.2 else none else f_L_law_j1647 fu L xs l4 r1613.2 else some (Sum.inr (Sum.inr ((0 : Int32), r1613.2))))) else none else none else none else none) else none else none else none else none else if ((xs l4.toNatClampNeg) &&& (31 : Int32)) = (25 : Int32) then if inb (l4 + (1 : Int32)) L then if inb (l4 + (2 : Int32)) L then if inb (l4 + (3 : Int32)) L then (f_L_isEqualizer fu (xs (l4 + (1 : Int32)).toNatClampNeg) (xs (l4 + (2 : Int32)).toNatClampNeg) (xs (l4 + (3 : Int32)).toNatClampNeg) M).bind (fun r1670 => if inb (l4 + (1 : Int32)) L then if inb (l4 + (2 : Int32)) L then if inb (l4 + (3 : Int32)) L then (f_X10_isEqualizer fu (xs (l4 + (1 : Int32)).toNatClampNeg) (xs (l4 + (2 : Int32)).toNatClampNeg) (xs (l4 + (3 : Int32)).toNatClampNeg) r1670.2).bind (fun r1694 => (f_X10_thrown fu  r1694.2).bind (fun r1700 => if r1700.1 = r1670.1 then if r1670.1 = 0 then if inb (0 : Int32) (alen 23 0) then if r1694.1 = 0 then f_L_law_j1728 fu L xs l4 (r1700.2.2 23 0 (0 : Int32).toNatClampNeg) (0 : Int64) r1700.2 else f_L_law_j1728 fu L xs l4 (r1700.2.2 23 0 (0 : Int32).toNatClampNeg) (1 : Int64) r1700.2 else none else f_L_law_j1734 fu L xs l4 r1700.2 else some (Sum.inr (Sum.inr ((0 : Int32), r1700.2))))) else none else none else none) else none else none else none else if ((xs l4.toNatClampNeg) &&& (31 : Int32)) = (26 : Int32) then (f_X9_digest fu  M).bind (fun r1738 => match r1738 with
    | (Sum.inl x1738, n1738) => (f_X10_digest fu  n1738).bind (fun r1742 => if (lg_cmp x1738 r1742.1) = 0 then f_L_law_j1751 fu L xs l4 r1742.2 else some (Sum.inr (Sum.inr ((0 : Int32), r1742.2))))
    | (Sum.inr z1738, n1738) => none) else f_L_law_j1751 fu L xs l4 M else none
def f_L_law (fu : Nat) (L : Nat) (xs : Nat → Int32) (M : Mem) : Option (Int32 × Mem) :=
  (lp_run (fun s => f_L_law_b23 fu L xs s.1 s.2) fu ((0 : Int32), M)).bind (fun r23 => match r23 with
    | Sum.inl M => some ((1 : Int32), M)
    | Sum.inr q23 => some q23)
set_option maxHeartbeats 40000000 in
set_option maxRecDepth 100000 in
theorem law_go {G : GE} {X : PX} {Q : State → Prop} {rm : Room} {ret : Option FieldType} {L : Nat} {xs : Nat → Int32} (C : CX false G RL cL_law 9 ret rm X) (hl : X.2.1.stackTraces = false) (hG : GOK G) (hk9 : (9, 0) ∈ gids G) (hkm : (10, 0) ∈ gids G) (hko : (23, 0) ∈ gids G) (hs : gscr G = some (L, xs)) (hL : L ≤ 2560)
    (hrf : 12 ≤ rm.frames) (hrl : 432 ≤ rm.locals) (hrc : xk_ X + 513 ≤ rm.cells) (hrs : xz_ X + 6 * 513 ≤ rm.slots) (hE : ∀ (a b : Nat) (M : Mem) (ls : List (Nat × AV)), a ≤ rm.cells → b ≤ rm.slots → GW G (bump X a b) 9 Q 1758 ls [vI 1] M) (fu : Nat) (M : Mem) (res : Int32 × Mem) (hm : f_L_law fu L xs M = some res) (h1 : res.1 = 1) :
    GW G (bump X (xk_ X) (xz_ X)) 9 Q 23 [(0, vR 24 0), (1, vR 9 0), (2, vR 10 0), (3, vR 23 0), (4, vI 0)] [] M := by
  unfold f_L_law at hm
  obtain ⟨r23, hL23, hk23⟩ := bnd_some hm
  have hx23 : ∀ (M : Mem), Sum.inl M = r23 → ∀ k : Nat, k ≤ 513 → GW G (bump X (xk_ X + k) (xz_ X + 6 * k)) 9 Q 1757 [] [] M := by
    intro M he k hk
    subst he
    have C : CX false G RL cL_law 9 ret rm (bump X (xk_ X + k) (xz_ X + 6 * k)) := cx_bump C
    refine g_iconst (v := 1) C dL_law_1757 rfl ?_
    exact hE _ _ _ _ (by omega) (by omega)
  have main := lp_ind1 (P := fun l4 M => ∀ k : Nat, l4 = nI (5 * k) → (5 * k ≤ L + 4) → GW G (bump X (xk_ X + k) (xz_ X + 6 * k)) 9 Q 23 [(0, vR 24 0), (1, vR 9 0), (2, vR 10 0), (3, vR 23 0), (4, vI l4)] [] M) (r := r23) ?_ fu (0 : Int32) M hL23 0 rfl (Nat.zero_le _)
  · exact main
  intro l4 M o23 hm K23 k hk hb
  have hrm := C.2.2.2.2.2.2.2.2.2.1
  have C1 : CX false G RL cL_law 9 ret rm (bump X (xk_ X + k + 1) (xz_ X + 6 * k + 6)) := cx_bump C
  have C : CX false G RL cL_law 9 ret rm (bump X (xk_ X + k) (xz_ X + 6 * k)) := cx_bump C
  have hkL0 : 5 * k ≤ L + 4 := hb
  unfold f_L_law_b23 at hm
  refine g_iload C 4 dL_law_23 rfl ?_
  refine g_aload_n C 0 dL_law_25 rfl rfl ?_
  refine g_slen C hs dL_law_26 ?_
  refine g_iconst (v := 5) C dL_law_27 rfl ?_
  refine g_isub C dL_law_28 ?_
  refine g_icmp_gt (tgt := 1757) C dL_law_29 (by decide) (fun h29 => ?_) (fun h29 => ?_)
  · have hm := ift hm h29
    obtain rfl := Option.some.inj hm
    exact g_sub [] rfl (g_pc rfl (hx23 M (K23.2 _ rfl) k (by omega)))
  · have hm := ife hm h29
    have hkL : 5 * k + 5 ≤ L := by rcases law_kL hL hk h29 with z | z <;> omega
    have hq : xk_ X + k ≤ rm.cells ∧ xz_ X + 6 * k ≤ rm.slots := ⟨by omega, by omega⟩
    have hq1 : xk_ X + k + 1 ≤ rm.cells ∧ xz_ X + 6 * k + 6 ≤ rm.slots := ⟨by omega, by omega⟩
    have J1751 : ∀ (M : Mem), f_L_law_j1751 fu L xs  l4  M = some o23 → GW G (bump X (xk_ X + k + 1) (xz_ X + 6 * k + 6)) 9 Q 1751 [(0, vR 24 0), (1, vR 9 0), (2, vR 10 0), (3, vR 23 0), (4, vI l4)] [] M := by
      intro  M hm
      have C := C1
      have hq := hq1
      unfold f_L_law_j1751 at hm
      refine g_iinc (ls' := [(4, vI (l4 + (5 : Int32))), (0, vR 24 0), (1, vR 9 0), (2, vR 10 0), (3, vR 23 0)]) (v := l4 + (5 : Int32)) C 4 dL_law_1751 rfl (iv_p5 _) (by decide) rfl ?_
      refine g_goto (tgt := 23) C dL_law_1754 (by decide) ?_
      obtain rfl := Option.some.inj hm
      exact g_sub [1, 2, 3, 4, 0] rfl (g_pc rfl (K23.1 (l4 + (5 : Int32)) M rfl (k + 1) (law_l4 hk) (by omega)))
    have J213 : ∀ (M : Mem), f_L_law_j213 fu L xs  l4  M = some o23 → GW G (bump X (xk_ X + k + 1) (xz_ X + 6 * k + 6)) 9 Q 213 [(0, vR 24 0), (1, vR 9 0), (2, vR 10 0), (3, vR 23 0), (4, vI l4)] [] M := by
      intro  M hm
      have C := C1
      have hq := hq1
      unfold f_L_law_j213 at hm
      refine g_goto (tgt := 1751) C dL_law_213 (by decide) ?_
      exact g_sub [0, 1, 2, 3, 4] rfl (g_pc rfl (J1751  M hm))
    have J281 : ∀ (M : Mem), f_L_law_j281 fu L xs  l4  M = some o23 → GW G (bump X (xk_ X + k + 1) (xz_ X + 6 * k + 6)) 9 Q 281 [(0, vR 24 0), (1, vR 9 0), (2, vR 10 0), (3, vR 23 0), (4, vI l4)] [] M := by
      intro  M hm
      have C := C1
      have hq := hq1
      unfold f_L_law_j281 at hm
      refine g_goto (tgt := 1751) C dL_law_281 (by decide) ?_
      exact g_sub [0, 1, 2, 3, 4] rfl (g_pc rfl (J1751  M hm))
    have J325 : ∀ (M : Mem), f_L_law_j325 fu L xs  l4  M = some o23 → GW G (bump X (xk_ X + k + 1) (xz_ X + 6 * k + 6)) 9 Q 325 [(0, vR 24 0), (1, vR 9 0), (2, vR 10 0), (3, vR 23 0), (4, vI l4)] [] M := by
      intro  M hm
      have C := C1
      have hq := hq1
      unfold f_L_law_j325 at hm
      refine g_goto (tgt := 1751) C dL_law_325 (by decide) ?_
      exact g_sub [0, 1, 2, 3, 4] rfl (g_pc rfl (J1751  M hm))
    have J393 : ∀ (M : Mem), f_L_law_j393 fu L xs  l4  M = some o23 → GW G (bump X (xk_ X + k + 1) (xz_ X + 6 * k + 6)) 9 Q 393 [(0, vR 24 0), (1, vR 9 0), (2, vR 10 0), (3, vR 23 0), (4, vI l4)] [] M := by
      intro  M hm
      have C := C1
      have hq := hq1
      unfold f_L_law_j393 at hm
      refine g_goto (tgt := 1751) C dL_law_393 (by decide) ?_
      exact g_sub [0, 1, 2, 3, 4] rfl (g_pc rfl (J1751  M hm))
    have J449 : ∀ (M : Mem), f_L_law_j449 fu L xs  l4  M = some o23 → GW G (bump X (xk_ X + k + 1) (xz_ X + 6 * k + 6)) 9 Q 449 [(0, vR 24 0), (1, vR 9 0), (2, vR 10 0), (3, vR 23 0), (4, vI l4)] [] M := by
      intro  M hm
      have C := C1
      have hq := hq1
      unfold f_L_law_j449 at hm
      refine g_goto (tgt := 1751) C dL_law_449 (by decide) ?_
      exact g_sub [0, 1, 2, 3, 4] rfl (g_pc rfl (J1751  M hm))
    have J505 : ∀ (M : Mem), f_L_law_j505 fu L xs  l4  M = some o23 → GW G (bump X (xk_ X + k + 1) (xz_ X + 6 * k + 6)) 9 Q 505 [(0, vR 24 0), (1, vR 9 0), (2, vR 10 0), (3, vR 23 0), (4, vI l4)] [] M := by
      intro  M hm
      have C := C1
      have hq := hq1
      unfold f_L_law_j505 at hm
      refine g_goto (tgt := 1751) C dL_law_505 (by decide) ?_
      exact g_sub [0, 1, 2, 3, 4] rfl (g_pc rfl (J1751  M hm))
    have J575 : ∀ (M : Mem), f_L_law_j575 fu L xs  l4  M = some o23 → GW G (bump X (xk_ X + k + 1) (xz_ X + 6 * k + 6)) 9 Q 575 [(0, vR 24 0), (1, vR 9 0), (2, vR 10 0), (3, vR 23 0), (4, vI l4)] [] M := by
      intro  M hm
      have C := C1
      have hq := hq1
      unfold f_L_law_j575 at hm
      refine g_goto (tgt := 1751) C dL_law_575 (by decide) ?_
      exact g_sub [0, 1, 2, 3, 4] rfl (g_pc rfl (J1751  M hm))
    have J656 : ∀ (M : Mem), f_L_law_j656 fu L xs  l4  M = some o23 → GW G (bump X (xk_ X + k + 1) (xz_ X + 6 * k + 6)) 9 Q 656 [(0, vR 24 0), (1, vR 9 0), (2, vR 10 0), (3, vR 23 0), (4, vI l4)] [] M := by
      intro  M hm
      have C := C1
      have hq := hq1
      unfold f_L_law_j656 at hm
      refine g_goto (tgt := 1751) C dL_law_656 (by decide) ?_
      exact g_sub [0, 1, 2, 3, 4] rfl (g_pc rfl (J1751  M hm))
    have J724 : ∀ (M : Mem), f_L_law_j724 fu L xs  l4  M = some o23 → GW G (bump X (xk_ X + k + 1) (xz_ X + 6 * k + 6)) 9 Q 724 [(0, vR 24 0), (1, vR 9 0), (2, vR 10 0), (3, vR 23 0), (4, vI l4)] [] M := by
      intro  M hm
      have C := C1
      have hq := hq1
      unfold f_L_law_j724 at hm
      refine g_goto (tgt := 1751) C dL_law_724 (by decide) ?_
      exact g_sub [0, 1, 2, 3, 4] rfl (g_pc rfl (J1751  M hm))
    have J820 : ∀ (M : Mem), f_L_law_j820 fu L xs  l4  M = some o23 → GW G (bump X (xk_ X + k + 1) (xz_ X + 6 * k + 6)) 9 Q 820 [(0, vR 24 0), (1, vR 9 0), (2, vR 10 0), (3, vR 23 0), (4, vI l4)] [] M := by
      intro  M hm
      have C := C1
      have hq := hq1
      unfold f_L_law_j820 at hm
      refine g_goto (tgt := 1751) C dL_law_820 (by decide) ?_
      exact g_sub [0, 1, 2, 3, 4] rfl (g_pc rfl (J1751  M hm))
    have J787 : ∀ (l5 : Int32) (t1 : Int32) (t2 : Int32) (t3 : Int32) (M : Mem), f_L_law_j787 fu L xs  l4 l5 t1 t2 t3 M = some o23 → GW G (bump X (xk_ X + k + 1) (xz_ X + 6 * k + 6)) 9 Q 787 [(0, vR 24 0), (1, vR 9 0), (2, vR 10 0), (3, vR 23 0), (4, vI l4), (5, vI l5)] [vI t3, vI t2, vI t1, vR 10 0] M := by
      intro l5 t1 t2 t3 M hm
      have C := C1
      have hq := hq1
      unfold f_L_law_j787 at hm
      obtain ⟨r787, hr787, hm⟩ := bnd_some hm
      refine g_callVi_k (As := [vI t1, vI t2, vI t3]) (rest := []) C lk_L_143 (k_X10_between X.2.1 G hl hG fu t1 t2 t3 M r787 hkm hr787) (by decide) rfl rfl rfl (Nat.le_of_ble_eq_true rfl) ⟨Nat.le_trans (Nat.le_of_ble_eq_true rfl) hrf, Nat.le_trans (Nat.le_of_ble_eq_true rfl) hrl⟩ hq dL_law_787 ?_
      refine g_istore (ls' := [(6, vI r787.1), (0, vR 24 0), (1, vR 9 0), (2, vR 10 0), (3, vR 23 0), (4, vI l4), (5, vI l5)]) C dL_law_790 (by decide) rfl ?_
      refine g_aload_n C 3 dL_law_792 rfl rfl ?_
      obtain ⟨r793, hr793, hm⟩ := bnd_some hm
      refine g_callVi_k (As := []) (rest := []) C lk_L_99 (k_X10_thrown X.2.1 G hl hG fu  r787.2 r793 hkm hr793) (by decide) rfl rfl rfl (Nat.le_of_ble_eq_true rfl) ⟨Nat.le_trans (Nat.le_of_ble_eq_true rfl) hrf, Nat.le_trans (Nat.le_of_ble_eq_true rfl) hrl⟩ hq dL_law_793 ?_
      refine g_iload C 6 dL_law_796 rfl ?_
      refine g_icmp_eq (tgt := 803) C dL_law_798 (by decide) (fun h798 => ?_) (fun h798 => ?_)
      · have hm := ift hm h798
        refine g_iload C 6 dL_law_803 rfl ?_
        refine g_if_ne (tgt := 820) C dL_law_805 (by decide) (fun h805 => ?_) (fun h805 => ?_)
        · have hm := ife hm h805
          exact g_sub [1, 2, 3, 4, 5] rfl (g_pc rfl (J820  r793.2 hm))
        · have hm := ift hm h805
          refine g_aload_n C 4 dL_law_808 rfl rfl ?_
          refine g_iconst (v := 0) C dL_law_809 rfl ?_
          obtain ⟨hi810, hm⟩ := ifn hm
          refine g_lald C (by decide) hi810 dL_law_810 ?_
          refine g_iload C 0 dL_law_811 rfl ?_
          refine g_i2l C dL_law_813 ?_
          refine g_lcmp C dL_law_814 ?_
          refine g_if_eq (tgt := 820) C dL_law_815 (by decide) (fun h815 => ?_) (fun h815 => ?_)
          · have hm := ift hm h815
            exact g_sub [1, 2, 3, 4, 5] rfl (g_pc rfl (J820  r793.2 hm))
          · have hm := ife hm h815
            refine g_iconst (v := 0) C dL_law_818 rfl ?_
            obtain rfl := Option.some.inj hm
            have e23 := K23.2 _ rfl
            subst e23
            obtain rfl := Option.some.inj hk23
            exact absurd (show (0 : Int32) = 1 from h1) (by decide)
      · have hm := ife hm h798
        refine g_iconst (v := 0) C dL_law_801 rfl ?_
        obtain rfl := Option.some.inj hm
        have e23 := K23.2 _ rfl
        subst e23
        obtain rfl := Option.some.inj hk23
        exact absurd (show (0 : Int32) = 1 from h1) (by decide)
    have J754 : ∀ (t1 : Int32) (t2 : Int32) (t3 : Int32) (M : Mem), f_L_law_j754 fu L xs  l4 t1 t2 t3 M = some o23 → GW G (bump X (xk_ X + k) (xz_ X + 6 * k)) 9 Q 754 [(0, vR 24 0), (1, vR 9 0), (2, vR 10 0), (3, vR 23 0), (4, vI l4)] [vI t3, vI t2, vI t1, vR 9 0] M := by
      intro t1 t2 t3 M hm
      unfold f_L_law_j754 at hm
      refine g_aload_n C 3 dL_law_754 rfl rfl ?_
      obtain ⟨r755, hr755, hm⟩ := bnd_some hm
      refine g_callSwB (As := [vR 9 0, vI t1, vI t2, vI t3, vR 23 0]) (rest := []) C lkw_140 (k_L_between X.2.1 G hl hG fu t1 t2 t3 M r755 hk9 hko hr755) rfl rfl (Nat.le_of_ble_eq_true rfl) ⟨Nat.le_trans (Nat.le_of_ble_eq_true rfl) hrf, Nat.le_trans (Nat.le_of_ble_eq_true rfl) hrl⟩ hq1 dL_law_755 ?_
      have C := C1
      have hq := hq1
      refine g_istore (ls' := [(5, vI r755.1), (0, vR 24 0), (1, vR 9 0), (2, vR 10 0), (3, vR 23 0), (4, vI l4)]) C dL_law_758 (by decide) rfl ?_
      refine g_aload_n C 3 dL_law_760 rfl rfl ?_
      refine g_aload_n C 1 dL_law_761 rfl rfl ?_
      refine g_iload C 5 dL_law_762 rfl ?_
      refine g_iconst (v := 1) C dL_law_764 rfl ?_
      refine g_iadd C dL_law_765 ?_
      obtain ⟨hi766, hm⟩ := ifn hm
      refine g_sald C hs hi766 dL_law_766 ?_
      refine g_aload_n C 1 dL_law_767 rfl rfl ?_
      refine g_iload C 5 dL_law_768 rfl ?_
      refine g_iconst (v := 2) C dL_law_770 rfl ?_
      refine g_iadd C dL_law_771 ?_
      obtain ⟨hi772, hm⟩ := ifn hm
      refine g_sald C hs hi772 dL_law_772 ?_
      refine g_aload_n C 1 dL_law_773 rfl rfl ?_
      refine g_iload C 5 dL_law_774 rfl ?_
      refine g_iconst (v := 3) C dL_law_776 rfl ?_
      refine g_iadd C dL_law_777 ?_
      obtain ⟨hi778, hm⟩ := ifn hm
      refine g_sald C hs hi778 dL_law_778 ?_
      refine g_if_eq (tgt := 786) C dL_law_779 (by decide) (fun h779 => ?_) (fun h779 => ?_)
      · have hm := ift hm h779
        refine g_iconst (v := 0) C dL_law_786 rfl ?_
        exact g_sub [1, 2, 3, 4, 5, 0] rfl (g_pc rfl (J787 r755.1 (xs (l4 + (1 : Int32)).toNatClampNeg) (xs (l4 + (2 : Int32)).toNatClampNeg) (0 : Int32) r755.2 hm))
      · have hm := ife hm h779
        refine g_iconst (v := 1) C dL_law_782 rfl ?_
        refine g_goto (tgt := 787) C dL_law_783 (by decide) ?_
        exact g_sub [1, 2, 3, 4, 5, 0] rfl (g_pc rfl (J787 r755.1 (xs (l4 + (1 : Int32)).toNatClampNeg) (xs (l4 + (2 : Int32)).toNatClampNeg) (1 : Int32) r755.2 hm))
    have J888 : ∀ (M : Mem), f_L_law_j888 fu L xs  l4  M = some o23 → GW G (bump X (xk_ X + k + 1) (xz_ X + 6 * k + 6)) 9 Q 888 [(0, vR 24 0), (1, vR 9 0), (2, vR 10 0), (3, vR 23 0), (4, vI l4)] [] M := by
      intro  M hm
      have C := C1
      have hq := hq1
      unfold f_L_law_j888 at hm
      refine g_goto (tgt := 1751) C dL_law_888 (by decide) ?_
      exact g_sub [0, 1, 2, 3, 4] rfl (g_pc rfl (J1751  M hm))
    have J980 : ∀ (M : Mem), f_L_law_j980 fu L xs  l4  M = some o23 → GW G (bump X (xk_ X + k + 1) (xz_ X + 6 * k + 6)) 9 Q 980 [(0, vR 24 0), (1, vR 9 0), (2, vR 10 0), (3, vR 23 0), (4, vI l4)] [] M := by
      intro  M hm
      have C := C1
      have hq := hq1
      unfold f_L_law_j980 at hm
      refine g_goto (tgt := 1751) C dL_law_980 (by decide) ?_
      exact g_sub [0, 1, 2, 3, 4] rfl (g_pc rfl (J1751  M hm))
    have J1048 : ∀ (M : Mem), f_L_law_j1048 fu L xs  l4  M = some o23 → GW G (bump X (xk_ X + k + 1) (xz_ X + 6 * k + 6)) 9 Q 1048 [(0, vR 24 0), (1, vR 9 0), (2, vR 10 0), (3, vR 23 0), (4, vI l4)] [] M := by
      intro  M hm
      have C := C1
      have hq := hq1
      unfold f_L_law_j1048 at hm
      refine g_goto (tgt := 1751) C dL_law_1048 (by decide) ?_
      exact g_sub [0, 1, 2, 3, 4] rfl (g_pc rfl (J1751  M hm))
    have J1104 : ∀ (M : Mem), f_L_law_j1104 fu L xs  l4  M = some o23 → GW G (bump X (xk_ X + k + 1) (xz_ X + 6 * k + 6)) 9 Q 1104 [(0, vR 24 0), (1, vR 9 0), (2, vR 10 0), (3, vR 23 0), (4, vI l4)] [] M := by
      intro  M hm
      have C := C1
      have hq := hq1
      unfold f_L_law_j1104 at hm
      refine g_goto (tgt := 1751) C dL_law_1104 (by decide) ?_
      exact g_sub [0, 1, 2, 3, 4] rfl (g_pc rfl (J1751  M hm))
    have J1145 : ∀ (M : Mem), f_L_law_j1145 fu L xs  l4  M = some o23 → GW G (bump X (xk_ X + k) (xz_ X + 6 * k)) 9 Q 1145 [(0, vR 24 0), (1, vR 9 0), (2, vR 10 0), (3, vR 23 0), (4, vI l4)] [] M := by
      intro  M hm
      unfold f_L_law_j1145 at hm
      refine g_goto (tgt := 1751) C dL_law_1145 (by decide) ?_
      refine g_wdB ?_
      exact g_sub [0, 1, 2, 3, 4] rfl (g_pc rfl (J1751  M hm))
    have J1213 : ∀ (M : Mem), f_L_law_j1213 fu L xs  l4  M = some o23 → GW G (bump X (xk_ X + k + 1) (xz_ X + 6 * k + 6)) 9 Q 1213 [(0, vR 24 0), (1, vR 9 0), (2, vR 10 0), (3, vR 23 0), (4, vI l4)] [] M := by
      intro  M hm
      have C := C1
      have hq := hq1
      unfold f_L_law_j1213 at hm
      refine g_goto (tgt := 1751) C dL_law_1213 (by decide) ?_
      exact g_sub [0, 1, 2, 3, 4] rfl (g_pc rfl (J1751  M hm))
    have J1281 : ∀ (M : Mem), f_L_law_j1281 fu L xs  l4  M = some o23 → GW G (bump X (xk_ X + k + 1) (xz_ X + 6 * k + 6)) 9 Q 1281 [(0, vR 24 0), (1, vR 9 0), (2, vR 10 0), (3, vR 23 0), (4, vI l4)] [] M := by
      intro  M hm
      have C := C1
      have hq := hq1
      unfold f_L_law_j1281 at hm
      refine g_goto (tgt := 1751) C dL_law_1281 (by decide) ?_
      exact g_sub [0, 1, 2, 3, 4] rfl (g_pc rfl (J1751  M hm))
    have J1349 : ∀ (M : Mem), f_L_law_j1349 fu L xs  l4  M = some o23 → GW G (bump X (xk_ X + k + 1) (xz_ X + 6 * k + 6)) 9 Q 1349 [(0, vR 24 0), (1, vR 9 0), (2, vR 10 0), (3, vR 23 0), (4, vI l4)] [] M := by
      intro  M hm
      have C := C1
      have hq := hq1
      unfold f_L_law_j1349 at hm
      refine g_goto (tgt := 1751) C dL_law_1349 (by decide) ?_
      exact g_sub [0, 1, 2, 3, 4] rfl (g_pc rfl (J1751  M hm))
    have J1405 : ∀ (M : Mem), f_L_law_j1405 fu L xs  l4  M = some o23 → GW G (bump X (xk_ X + k + 1) (xz_ X + 6 * k + 6)) 9 Q 1405 [(0, vR 24 0), (1, vR 9 0), (2, vR 10 0), (3, vR 23 0), (4, vI l4)] [] M := by
      intro  M hm
      have C := C1
      have hq := hq1
      unfold f_L_law_j1405 at hm
      refine g_goto (tgt := 1751) C dL_law_1405 (by decide) ?_
      exact g_sub [0, 1, 2, 3, 4] rfl (g_pc rfl (J1751  M hm))
    have J1473 : ∀ (M : Mem), f_L_law_j1473 fu L xs  l4  M = some o23 → GW G (bump X (xk_ X + k + 1) (xz_ X + 6 * k + 6)) 9 Q 1473 [(0, vR 24 0), (1, vR 9 0), (2, vR 10 0), (3, vR 23 0), (4, vI l4)] [] M := by
      intro  M hm
      have C := C1
      have hq := hq1
      unfold f_L_law_j1473 at hm
      refine g_goto (tgt := 1751) C dL_law_1473 (by decide) ?_
      exact g_sub [0, 1, 2, 3, 4] rfl (g_pc rfl (J1751  M hm))
    have J1548 : ∀ (M : Mem), f_L_law_j1548 fu L xs  l4  M = some o23 → GW G (bump X (xk_ X + k + 1) (xz_ X + 6 * k + 6)) 9 Q 1548 [(0, vR 24 0), (1, vR 9 0), (2, vR 10 0), (3, vR 23 0), (4, vI l4)] [] M := by
      intro  M hm
      have C := C1
      have hq := hq1
      unfold f_L_law_j1548 at hm
      refine g_goto (tgt := 1751) C dL_law_1548 (by decide) ?_
      exact g_sub [0, 1, 2, 3, 4] rfl (g_pc rfl (J1751  M hm))
    have J1542 : ∀ (t0 : Int64) (t1 : Int64) (M : Mem), f_L_law_j1542 fu L xs  l4 t0 t1 M = some o23 → GW G (bump X (xk_ X + k + 1) (xz_ X + 6 * k + 6)) 9 Q 1542 [(0, vR 24 0), (1, vR 9 0), (2, vR 10 0), (3, vR 23 0), (4, vI l4)] [vL t1, vL t0] M := by
      intro t0 t1 M hm
      have C := C1
      have hq := hq1
      unfold f_L_law_j1542 at hm
      refine g_lcmp C dL_law_1542 ?_
      refine g_if_eq (tgt := 1548) C dL_law_1543 (by decide) (fun h1543 => ?_) (fun h1543 => ?_)
      · have hm := ift hm h1543
        exact g_sub [0, 1, 2, 3, 4] rfl (g_pc rfl (J1548  M hm))
      · have hm := ife hm h1543
        refine g_iconst (v := 0) C dL_law_1546 rfl ?_
        obtain rfl := Option.some.inj hm
        have e23 := K23.2 _ rfl
        subst e23
        obtain rfl := Option.some.inj hk23
        exact absurd (show (0 : Int32) = 1 from h1) (by decide)
    have J1647 : ∀ (M : Mem), f_L_law_j1647 fu L xs  l4  M = some o23 → GW G (bump X (xk_ X + k + 1) (xz_ X + 6 * k + 6)) 9 Q 1647 [(0, vR 24 0), (1, vR 9 0), (2, vR 10 0), (3, vR 23 0), (4, vI l4)] [] M := by
      intro  M hm
      have C := C1
      have hq := hq1
      unfold f_L_law_j1647 at hm
      refine g_goto (tgt := 1751) C dL_law_1647 (by decide) ?_
      exact g_sub [0, 1, 2, 3, 4] rfl (g_pc rfl (J1751  M hm))
    have J1641 : ∀ (t0 : Int64) (t1 : Int64) (M : Mem), f_L_law_j1641 fu L xs  l4 t0 t1 M = some o23 → GW G (bump X (xk_ X + k + 1) (xz_ X + 6 * k + 6)) 9 Q 1641 [(0, vR 24 0), (1, vR 9 0), (2, vR 10 0), (3, vR 23 0), (4, vI l4)] [vL t1, vL t0] M := by
      intro t0 t1 M hm
      have C := C1
      have hq := hq1
      unfold f_L_law_j1641 at hm
      refine g_lcmp C dL_law_1641 ?_
      refine g_if_eq (tgt := 1647) C dL_law_1642 (by decide) (fun h1642 => ?_) (fun h1642 => ?_)
      · have hm := ift hm h1642
        exact g_sub [0, 1, 2, 3, 4] rfl (g_pc rfl (J1647  M hm))
      · have hm := ife hm h1642
        refine g_iconst (v := 0) C dL_law_1645 rfl ?_
        obtain rfl := Option.some.inj hm
        have e23 := K23.2 _ rfl
        subst e23
        obtain rfl := Option.some.inj hk23
        exact absurd (show (0 : Int32) = 1 from h1) (by decide)
    have J1734 : ∀ (M : Mem), f_L_law_j1734 fu L xs  l4  M = some o23 → GW G (bump X (xk_ X + k + 1) (xz_ X + 6 * k + 6)) 9 Q 1734 [(0, vR 24 0), (1, vR 9 0), (2, vR 10 0), (3, vR 23 0), (4, vI l4)] [] M := by
      intro  M hm
      have C := C1
      have hq := hq1
      unfold f_L_law_j1734 at hm
      refine g_goto (tgt := 1751) C dL_law_1734 (by decide) ?_
      exact g_sub [0, 1, 2, 3, 4] rfl (g_pc rfl (J1751  M hm))
    have J1728 : ∀ (t0 : Int64) (t1 : Int64) (M : Mem), f_L_law_j1728 fu L xs  l4 t0 t1 M = some o23 → GW G (bump X (xk_ X + k + 1) (xz_ X + 6 * k + 6)) 9 Q 1728 [(0, vR 24 0), (1, vR 9 0), (2, vR 10 0), (3, vR 23 0), (4, vI l4)] [vL t1, vL t0] M := by
      intro t0 t1 M hm
      have C := C1
      have hq := hq1
      unfold f_L_law_j1728 at hm
      refine g_lcmp C dL_law_1728 ?_
      refine g_if_eq (tgt := 1734) C dL_law_1729 (by decide) (fun h1729 => ?_) (fun h1729 => ?_)
      · have hm := ift hm h1729
        exact g_sub [0, 1, 2, 3, 4] rfl (g_pc rfl (J1734  M hm))
      · have hm := ife hm h1729
        refine g_iconst (v := 0) C dL_law_1732 rfl ?_
        obtain rfl := Option.some.inj hm
        have e23 := K23.2 _ rfl
        subst e23
        obtain rfl := Option.some.inj hk23
        exact absurd (show (0 : Int32) = 1 from h1) (by decide)
    refine g_aload_n C 0 dL_law_32 rfl rfl ?_
    refine g_iload C 4 dL_law_33 rfl ?_
    obtain ⟨hi35, hm⟩ := ifn hm
    refine g_sald C hs hi35 dL_law_35 ?_
    refine g_bipush (v := 31) C dL_law_36 rfl ?_
    refine g_iand C dL_law_38 ?_
    by_cases h39_0 : ((xs l4.toNatClampNeg) &&& (31 : Int32)) = (0 : Int32)
    · have hm := ift hm h39_0
      refine g_tabIn (off := 121) (tgt := 160) C dL_law_39 (by rw [h39_0]; decide) (by rw [h39_0]; decide) (by rw [h39_0]; rfl) (by decide) ?_
      refine g_aload_n C 1 dL_law_160 rfl rfl ?_
      refine g_aload_n C 0 dL_law_161 rfl rfl ?_
      refine g_iload C 4 dL_law_162 rfl ?_
      refine g_iconst (v := 1) C dL_law_164 rfl ?_
      refine g_iadd C dL_law_165 ?_
      obtain ⟨hi166, hm⟩ := ifn hm
      refine g_sald C hs hi166 dL_law_166 ?_
      refine g_aload_n C 3 dL_law_167 rfl rfl ?_
      obtain ⟨r168, hr168, hm⟩ := bnd_some hm
      refine g_callSwB (As := [vR 9 0, vI (xs (l4 + (1 : Int32)).toNatClampNeg), vR 23 0]) (rest := []) C lkw_93 (k_L_begin X.2.1 G hl hG fu (xs (l4 + (1 : Int32)).toNatClampNeg) M r168 hk9 hko hr168) rfl rfl (Nat.le_of_ble_eq_true rfl) ⟨Nat.le_trans (Nat.le_of_ble_eq_true rfl) hrf, Nat.le_trans (Nat.le_of_ble_eq_true rfl) hrl⟩ hq1 dL_law_168 ?_
      have C := C1
      have hq := hq1
      refine g_istore (ls' := [(5, vI r168.1), (0, vR 24 0), (1, vR 9 0), (2, vR 10 0), (3, vR 23 0), (4, vI l4)]) C dL_law_171 (by decide) rfl ?_
      refine g_aload_n C 3 dL_law_173 rfl rfl ?_
      refine g_aload_n C 1 dL_law_174 rfl rfl ?_
      refine g_iload C 5 dL_law_175 rfl ?_
      refine g_iconst (v := 1) C dL_law_177 rfl ?_
      refine g_iadd C dL_law_178 ?_
      obtain ⟨hi179, hm⟩ := ifn hm
      refine g_sald C hs hi179 dL_law_179 ?_
      obtain ⟨r180, hr180, hm⟩ := bnd_some hm
      refine g_callVi_k (As := [vI (xs (l4 + (1 : Int32)).toNatClampNeg)]) (rest := []) C lk_L_98 (k_X10_begin X.2.1 G hl hG fu (xs (l4 + (1 : Int32)).toNatClampNeg) r168.2 r180 hkm hr180) (by decide) rfl rfl rfl (Nat.le_of_ble_eq_true rfl) ⟨Nat.le_trans (Nat.le_of_ble_eq_true rfl) hrf, Nat.le_trans (Nat.le_of_ble_eq_true rfl) hrl⟩ hq dL_law_180 ?_
      refine g_istore (ls' := [(6, vI r180.1), (5, vI r168.1), (0, vR 24 0), (1, vR 9 0), (2, vR 10 0), (3, vR 23 0), (4, vI l4)]) C dL_law_183 (by decide) rfl ?_
      refine g_aload_n C 4 dL_law_185 rfl rfl ?_
      obtain ⟨r186, hr186, hm⟩ := bnd_some hm
      refine g_callVi_k (As := []) (rest := []) C lk_L_99 (k_X10_thrown X.2.1 G hl hG fu  r180.2 r186 hkm hr186) (by decide) rfl rfl rfl (Nat.le_of_ble_eq_true rfl) ⟨Nat.le_trans (Nat.le_of_ble_eq_true rfl) hrf, Nat.le_trans (Nat.le_of_ble_eq_true rfl) hrl⟩ hq dL_law_186 ?_
      refine g_iload C 1 dL_law_189 rfl ?_
      refine g_icmp_eq (tgt := 196) C dL_law_191 (by decide) (fun h191 => ?_) (fun h191 => ?_)
      · have hm := ift hm h191
        refine g_iload C 1 dL_law_196 rfl ?_
        refine g_if_ne (tgt := 213) C dL_law_198 (by decide) (fun h198 => ?_) (fun h198 => ?_)
        · have hm := ife hm h198
          exact g_sub [2, 3, 4, 5, 6] rfl (g_pc rfl (J213  r186.2 hm))
        · have hm := ift hm h198
          refine g_aload_n C 5 dL_law_201 rfl rfl ?_
          refine g_iconst (v := 0) C dL_law_202 rfl ?_
          obtain ⟨hi203, hm⟩ := ifn hm
          refine g_lald C (by decide) hi203 dL_law_203 ?_
          refine g_iload C 0 dL_law_204 rfl ?_
          refine g_i2l C dL_law_206 ?_
          refine g_lcmp C dL_law_207 ?_
          refine g_if_eq (tgt := 213) C dL_law_208 (by decide) (fun h208 => ?_) (fun h208 => ?_)
          · have hm := ift hm h208
            exact g_sub [2, 3, 4, 5, 6] rfl (g_pc rfl (J213  r186.2 hm))
          · have hm := ife hm h208
            refine g_iconst (v := 0) C dL_law_211 rfl ?_
            obtain rfl := Option.some.inj hm
            have e23 := K23.2 _ rfl
            subst e23
            obtain rfl := Option.some.inj hk23
            exact absurd (show (0 : Int32) = 1 from h1) (by decide)
      · have hm := ife hm h191
        refine g_iconst (v := 0) C dL_law_194 rfl ?_
        obtain rfl := Option.some.inj hm
        have e23 := K23.2 _ rfl
        subst e23
        obtain rfl := Option.some.inj hk23
        exact absurd (show (0 : Int32) = 1 from h1) (by decide)
    have hm := ife hm h39_0
    by_cases h39_1 : ((xs l4.toNatClampNeg) &&& (31 : Int32)) = (1 : Int32)
    · have hm := ift hm h39_1
      refine g_tabIn (off := 177) (tgt := 216) C dL_law_39 (by rw [h39_1]; decide) (by rw [h39_1]; decide) (by rw [h39_1]; rfl) (by decide) ?_
      refine g_aload_n C 1 dL_law_216 rfl rfl ?_
      refine g_aload_n C 0 dL_law_217 rfl rfl ?_
      refine g_iload C 4 dL_law_218 rfl ?_
      refine g_iconst (v := 1) C dL_law_220 rfl ?_
      refine g_iadd C dL_law_221 ?_
      obtain ⟨hi222, hm⟩ := ifn hm
      refine g_sald C hs hi222 dL_law_222 ?_
      refine g_aload_n C 0 dL_law_223 rfl rfl ?_
      refine g_iload C 4 dL_law_224 rfl ?_
      refine g_iconst (v := 2) C dL_law_226 rfl ?_
      refine g_iadd C dL_law_227 ?_
      obtain ⟨hi228, hm⟩ := ifn hm
      refine g_sald C hs hi228 dL_law_228 ?_
      refine g_aload_n C 3 dL_law_229 rfl rfl ?_
      obtain ⟨r230, hr230, hm⟩ := bnd_some hm
      refine g_callSwB (As := [vR 9 0, vI (xs (l4 + (1 : Int32)).toNatClampNeg), vI (xs (l4 + (2 : Int32)).toNatClampNeg), vR 23 0]) (rest := []) C lkw_102 (k_L_addArrow X.2.1 G hl hG fu (xs (l4 + (1 : Int32)).toNatClampNeg) (xs (l4 + (2 : Int32)).toNatClampNeg) M r230 hk9 hko hr230) rfl rfl (Nat.le_of_ble_eq_true rfl) ⟨Nat.le_trans (Nat.le_of_ble_eq_true rfl) hrf, Nat.le_trans (Nat.le_of_ble_eq_true rfl) hrl⟩ hq1 dL_law_230 ?_
      have C := C1
      have hq := hq1
      refine g_istore (ls' := [(5, vI r230.1), (0, vR 24 0), (1, vR 9 0), (2, vR 10 0), (3, vR 23 0), (4, vI l4)]) C dL_law_233 (by decide) rfl ?_
      refine g_aload_n C 3 dL_law_235 rfl rfl ?_
      refine g_aload_n C 1 dL_law_236 rfl rfl ?_
      refine g_iload C 5 dL_law_237 rfl ?_
      refine g_iconst (v := 1) C dL_law_239 rfl ?_
      refine g_iadd C dL_law_240 ?_
      obtain ⟨hi241, hm⟩ := ifn hm
      refine g_sald C hs hi241 dL_law_241 ?_
      refine g_aload_n C 1 dL_law_242 rfl rfl ?_
      refine g_iload C 5 dL_law_243 rfl ?_
      refine g_iconst (v := 2) C dL_law_245 rfl ?_
      refine g_iadd C dL_law_246 ?_
      obtain ⟨hi247, hm⟩ := ifn hm
      refine g_sald C hs hi247 dL_law_247 ?_
      obtain ⟨r248, hr248, hm⟩ := bnd_some hm
      refine g_callVi_k (As := [vI (xs (l4 + (1 : Int32)).toNatClampNeg), vI (xs (l4 + (2 : Int32)).toNatClampNeg)]) (rest := []) C lk_L_105 (k_X10_addArrow X.2.1 G hl hG fu (xs (l4 + (1 : Int32)).toNatClampNeg) (xs (l4 + (2 : Int32)).toNatClampNeg) r230.2 r248 hkm hr248) (by decide) rfl rfl rfl (Nat.le_of_ble_eq_true rfl) ⟨Nat.le_trans (Nat.le_of_ble_eq_true rfl) hrf, Nat.le_trans (Nat.le_of_ble_eq_true rfl) hrl⟩ hq dL_law_248 ?_
      refine g_istore (ls' := [(6, vI r248.1), (5, vI r230.1), (0, vR 24 0), (1, vR 9 0), (2, vR 10 0), (3, vR 23 0), (4, vI l4)]) C dL_law_251 (by decide) rfl ?_
      refine g_aload_n C 4 dL_law_253 rfl rfl ?_
      obtain ⟨r254, hr254, hm⟩ := bnd_some hm
      refine g_callVi_k (As := []) (rest := []) C lk_L_99 (k_X10_thrown X.2.1 G hl hG fu  r248.2 r254 hkm hr254) (by decide) rfl rfl rfl (Nat.le_of_ble_eq_true rfl) ⟨Nat.le_trans (Nat.le_of_ble_eq_true rfl) hrf, Nat.le_trans (Nat.le_of_ble_eq_true rfl) hrl⟩ hq dL_law_254 ?_
      refine g_iload C 1 dL_law_257 rfl ?_
      refine g_icmp_eq (tgt := 264) C dL_law_259 (by decide) (fun h259 => ?_) (fun h259 => ?_)
      · have hm := ift hm h259
        refine g_iload C 1 dL_law_264 rfl ?_
        refine g_if_ne (tgt := 281) C dL_law_266 (by decide) (fun h266 => ?_) (fun h266 => ?_)
        · have hm := ife hm h266
          exact g_sub [2, 3, 4, 5, 6] rfl (g_pc rfl (J281  r254.2 hm))
        · have hm := ift hm h266
          refine g_aload_n C 5 dL_law_269 rfl rfl ?_
          refine g_iconst (v := 0) C dL_law_270 rfl ?_
          obtain ⟨hi271, hm⟩ := ifn hm
          refine g_lald C (by decide) hi271 dL_law_271 ?_
          refine g_iload C 0 dL_law_272 rfl ?_
          refine g_i2l C dL_law_274 ?_
          refine g_lcmp C dL_law_275 ?_
          refine g_if_eq (tgt := 281) C dL_law_276 (by decide) (fun h276 => ?_) (fun h276 => ?_)
          · have hm := ift hm h276
            exact g_sub [2, 3, 4, 5, 6] rfl (g_pc rfl (J281  r254.2 hm))
          · have hm := ife hm h276
            refine g_iconst (v := 0) C dL_law_279 rfl ?_
            obtain rfl := Option.some.inj hm
            have e23 := K23.2 _ rfl
            subst e23
            obtain rfl := Option.some.inj hk23
            exact absurd (show (0 : Int32) = 1 from h1) (by decide)
      · have hm := ife hm h259
        refine g_iconst (v := 0) C dL_law_262 rfl ?_
        obtain rfl := Option.some.inj hm
        have e23 := K23.2 _ rfl
        subst e23
        obtain rfl := Option.some.inj hk23
        exact absurd (show (0 : Int32) = 1 from h1) (by decide)
    have hm := ife hm h39_1
    by_cases h39_2 : ((xs l4.toNatClampNeg) &&& (31 : Int32)) = (2 : Int32)
    · have hm := ift hm h39_2
      refine g_tabIn (off := 245) (tgt := 284) C dL_law_39 (by rw [h39_2]; decide) (by rw [h39_2]; decide) (by rw [h39_2]; rfl) (by decide) ?_
      refine g_aload_n C 1 dL_law_284 rfl rfl ?_
      refine g_aload_n C 3 dL_law_285 rfl rfl ?_
      obtain ⟨r286, hr286, hm⟩ := bnd_some hm
      refine g_callSwB (As := [vR 9 0, vR 23 0]) (rest := []) C lkw_106 (k_L_dropArrow X.2.1 G hl hG fu  M r286 hk9 hko hr286) rfl rfl (Nat.le_of_ble_eq_true rfl) ⟨Nat.le_trans (Nat.le_of_ble_eq_true rfl) hrf, Nat.le_trans (Nat.le_of_ble_eq_true rfl) hrl⟩ hq1 dL_law_286 ?_
      have C := C1
      have hq := hq1
      refine g_istore (ls' := [(5, vI r286.1), (0, vR 24 0), (1, vR 9 0), (2, vR 10 0), (3, vR 23 0), (4, vI l4)]) C dL_law_289 (by decide) rfl ?_
      refine g_aload_n C 3 dL_law_291 rfl rfl ?_
      obtain ⟨r292, hr292, hm⟩ := bnd_some hm
      refine g_callVi_k (As := []) (rest := []) C lk_L_109 (k_X10_dropArrow X.2.1 G hl hG fu  r286.2 r292 hkm hr292) (by decide) rfl rfl rfl (Nat.le_of_ble_eq_true rfl) ⟨Nat.le_trans (Nat.le_of_ble_eq_true rfl) hrf, Nat.le_trans (Nat.le_of_ble_eq_true rfl) hrl⟩ hq dL_law_292 ?_
      refine g_istore (ls' := [(6, vI r292.1), (5, vI r286.1), (0, vR 24 0), (1, vR 9 0), (2, vR 10 0), (3, vR 23 0), (4, vI l4)]) C dL_law_295 (by decide) rfl ?_
      refine g_aload_n C 4 dL_law_297 rfl rfl ?_
      obtain ⟨r298, hr298, hm⟩ := bnd_some hm
      refine g_callVi_k (As := []) (rest := []) C lk_L_99 (k_X10_thrown X.2.1 G hl hG fu  r292.2 r298 hkm hr298) (by decide) rfl rfl rfl (Nat.le_of_ble_eq_true rfl) ⟨Nat.le_trans (Nat.le_of_ble_eq_true rfl) hrf, Nat.le_trans (Nat.le_of_ble_eq_true rfl) hrl⟩ hq dL_law_298 ?_
      refine g_iload C 1 dL_law_301 rfl ?_
      refine g_icmp_eq (tgt := 308) C dL_law_303 (by decide) (fun h303 => ?_) (fun h303 => ?_)
      · have hm := ift hm h303
        refine g_iload C 1 dL_law_308 rfl ?_
        refine g_if_ne (tgt := 325) C dL_law_310 (by decide) (fun h310 => ?_) (fun h310 => ?_)
        · have hm := ife hm h310
          exact g_sub [2, 3, 4, 5, 6] rfl (g_pc rfl (J325  r298.2 hm))
        · have hm := ift hm h310
          refine g_aload_n C 5 dL_law_313 rfl rfl ?_
          refine g_iconst (v := 0) C dL_law_314 rfl ?_
          obtain ⟨hi315, hm⟩ := ifn hm
          refine g_lald C (by decide) hi315 dL_law_315 ?_
          refine g_iload C 0 dL_law_316 rfl ?_
          refine g_i2l C dL_law_318 ?_
          refine g_lcmp C dL_law_319 ?_
          refine g_if_eq (tgt := 325) C dL_law_320 (by decide) (fun h320 => ?_) (fun h320 => ?_)
          · have hm := ift hm h320
            exact g_sub [2, 3, 4, 5, 6] rfl (g_pc rfl (J325  r298.2 hm))
          · have hm := ife hm h320
            refine g_iconst (v := 0) C dL_law_323 rfl ?_
            obtain rfl := Option.some.inj hm
            have e23 := K23.2 _ rfl
            subst e23
            obtain rfl := Option.some.inj hk23
            exact absurd (show (0 : Int32) = 1 from h1) (by decide)
      · have hm := ife hm h303
        refine g_iconst (v := 0) C dL_law_306 rfl ?_
        obtain rfl := Option.some.inj hm
        have e23 := K23.2 _ rfl
        subst e23
        obtain rfl := Option.some.inj hk23
        exact absurd (show (0 : Int32) = 1 from h1) (by decide)
    have hm := ife hm h39_2
    by_cases h39_3 : ((xs l4.toNatClampNeg) &&& (31 : Int32)) = (3 : Int32)
    · have hm := ift hm h39_3
      refine g_tabIn (off := 289) (tgt := 328) C dL_law_39 (by rw [h39_3]; decide) (by rw [h39_3]; decide) (by rw [h39_3]; rfl) (by decide) ?_
      refine g_aload_n C 1 dL_law_328 rfl rfl ?_
      refine g_aload_n C 0 dL_law_329 rfl rfl ?_
      refine g_iload C 4 dL_law_330 rfl ?_
      refine g_iconst (v := 1) C dL_law_332 rfl ?_
      refine g_iadd C dL_law_333 ?_
      obtain ⟨hi334, hm⟩ := ifn hm
      refine g_sald C hs hi334 dL_law_334 ?_
      refine g_aload_n C 0 dL_law_335 rfl rfl ?_
      refine g_iload C 4 dL_law_336 rfl ?_
      refine g_iconst (v := 2) C dL_law_338 rfl ?_
      refine g_iadd C dL_law_339 ?_
      obtain ⟨hi340, hm⟩ := ifn hm
      refine g_sald C hs hi340 dL_law_340 ?_
      refine g_aload_n C 3 dL_law_341 rfl rfl ?_
      obtain ⟨r342, hr342, hm⟩ := bnd_some hm
      refine g_callSwB (As := [vR 9 0, vI (xs (l4 + (1 : Int32)).toNatClampNeg), vI (xs (l4 + (2 : Int32)).toNatClampNeg), vR 23 0]) (rest := []) C lkw_110 (k_L_addCell X.2.1 G hl hG fu (xs (l4 + (1 : Int32)).toNatClampNeg) (xs (l4 + (2 : Int32)).toNatClampNeg) M r342 hk9 hko hr342) rfl rfl (Nat.le_of_ble_eq_true rfl) ⟨Nat.le_trans (Nat.le_of_ble_eq_true rfl) hrf, Nat.le_trans (Nat.le_of_ble_eq_true rfl) hrl⟩ hq1 dL_law_342 ?_
      have C := C1
      have hq := hq1
      refine g_istore (ls' := [(5, vI r342.1), (0, vR 24 0), (1, vR 9 0), (2, vR 10 0), (3, vR 23 0), (4, vI l4)]) C dL_law_345 (by decide) rfl ?_
      refine g_aload_n C 3 dL_law_347 rfl rfl ?_
      refine g_aload_n C 1 dL_law_348 rfl rfl ?_
      refine g_iload C 5 dL_law_349 rfl ?_
      refine g_iconst (v := 1) C dL_law_351 rfl ?_
      refine g_iadd C dL_law_352 ?_
      obtain ⟨hi353, hm⟩ := ifn hm
      refine g_sald C hs hi353 dL_law_353 ?_
      refine g_aload_n C 1 dL_law_354 rfl rfl ?_
      refine g_iload C 5 dL_law_355 rfl ?_
      refine g_iconst (v := 2) C dL_law_357 rfl ?_
      refine g_iadd C dL_law_358 ?_
      obtain ⟨hi359, hm⟩ := ifn hm
      refine g_sald C hs hi359 dL_law_359 ?_
      obtain ⟨r360, hr360, hm⟩ := bnd_some hm
      refine g_callVi_k (As := [vI (xs (l4 + (1 : Int32)).toNatClampNeg), vI (xs (l4 + (2 : Int32)).toNatClampNeg)]) (rest := []) C lk_L_112 (k_X10_addCell X.2.1 G hl hG fu (xs (l4 + (1 : Int32)).toNatClampNeg) (xs (l4 + (2 : Int32)).toNatClampNeg) r342.2 r360 hkm hr360) (by decide) rfl rfl rfl (Nat.le_of_ble_eq_true rfl) ⟨Nat.le_trans (Nat.le_of_ble_eq_true rfl) hrf, Nat.le_trans (Nat.le_of_ble_eq_true rfl) hrl⟩ hq dL_law_360 ?_
      refine g_istore (ls' := [(6, vI r360.1), (5, vI r342.1), (0, vR 24 0), (1, vR 9 0), (2, vR 10 0), (3, vR 23 0), (4, vI l4)]) C dL_law_363 (by decide) rfl ?_
      refine g_aload_n C 4 dL_law_365 rfl rfl ?_
      obtain ⟨r366, hr366, hm⟩ := bnd_some hm
      refine g_callVi_k (As := []) (rest := []) C lk_L_99 (k_X10_thrown X.2.1 G hl hG fu  r360.2 r366 hkm hr366) (by decide) rfl rfl rfl (Nat.le_of_ble_eq_true rfl) ⟨Nat.le_trans (Nat.le_of_ble_eq_true rfl) hrf, Nat.le_trans (Nat.le_of_ble_eq_true rfl) hrl⟩ hq dL_law_366 ?_
      refine g_iload C 1 dL_law_369 rfl ?_
      refine g_icmp_eq (tgt := 376) C dL_law_371 (by decide) (fun h371 => ?_) (fun h371 => ?_)
      · have hm := ift hm h371
        refine g_iload C 1 dL_law_376 rfl ?_
        refine g_if_ne (tgt := 393) C dL_law_378 (by decide) (fun h378 => ?_) (fun h378 => ?_)
        · have hm := ife hm h378
          exact g_sub [2, 3, 4, 5, 6] rfl (g_pc rfl (J393  r366.2 hm))
        · have hm := ift hm h378
          refine g_aload_n C 5 dL_law_381 rfl rfl ?_
          refine g_iconst (v := 0) C dL_law_382 rfl ?_
          obtain ⟨hi383, hm⟩ := ifn hm
          refine g_lald C (by decide) hi383 dL_law_383 ?_
          refine g_iload C 0 dL_law_384 rfl ?_
          refine g_i2l C dL_law_386 ?_
          refine g_lcmp C dL_law_387 ?_
          refine g_if_eq (tgt := 393) C dL_law_388 (by decide) (fun h388 => ?_) (fun h388 => ?_)
          · have hm := ift hm h388
            exact g_sub [2, 3, 4, 5, 6] rfl (g_pc rfl (J393  r366.2 hm))
          · have hm := ife hm h388
            refine g_iconst (v := 0) C dL_law_391 rfl ?_
            obtain rfl := Option.some.inj hm
            have e23 := K23.2 _ rfl
            subst e23
            obtain rfl := Option.some.inj hk23
            exact absurd (show (0 : Int32) = 1 from h1) (by decide)
      · have hm := ife hm h371
        refine g_iconst (v := 0) C dL_law_374 rfl ?_
        obtain rfl := Option.some.inj hm
        have e23 := K23.2 _ rfl
        subst e23
        obtain rfl := Option.some.inj hk23
        exact absurd (show (0 : Int32) = 1 from h1) (by decide)
    have hm := ife hm h39_3
    by_cases h39_4 : ((xs l4.toNatClampNeg) &&& (31 : Int32)) = (4 : Int32)
    · have hm := ift hm h39_4
      refine g_tabIn (off := 357) (tgt := 396) C dL_law_39 (by rw [h39_4]; decide) (by rw [h39_4]; decide) (by rw [h39_4]; rfl) (by decide) ?_
      refine g_aload_n C 1 dL_law_396 rfl rfl ?_
      refine g_aload_n C 0 dL_law_397 rfl rfl ?_
      refine g_iload C 4 dL_law_398 rfl ?_
      refine g_iconst (v := 1) C dL_law_400 rfl ?_
      refine g_iadd C dL_law_401 ?_
      obtain ⟨hi402, hm⟩ := ifn hm
      refine g_sald C hs hi402 dL_law_402 ?_
      refine g_aload_n C 3 dL_law_403 rfl rfl ?_
      obtain ⟨r404, hr404, hm⟩ := bnd_some hm
      refine g_callSwB (As := [vR 9 0, vI (xs (l4 + (1 : Int32)).toNatClampNeg), vR 23 0]) (rest := []) C lkw_113 (k_L_dropCell X.2.1 G hl hG fu (xs (l4 + (1 : Int32)).toNatClampNeg) M r404 hk9 hko hr404) rfl rfl (Nat.le_of_ble_eq_true rfl) ⟨Nat.le_trans (Nat.le_of_ble_eq_true rfl) hrf, Nat.le_trans (Nat.le_of_ble_eq_true rfl) hrl⟩ hq1 dL_law_404 ?_
      have C := C1
      have hq := hq1
      refine g_istore (ls' := [(5, vI r404.1), (0, vR 24 0), (1, vR 9 0), (2, vR 10 0), (3, vR 23 0), (4, vI l4)]) C dL_law_407 (by decide) rfl ?_
      refine g_aload_n C 3 dL_law_409 rfl rfl ?_
      refine g_aload_n C 1 dL_law_410 rfl rfl ?_
      refine g_iload C 5 dL_law_411 rfl ?_
      refine g_iconst (v := 1) C dL_law_413 rfl ?_
      refine g_iadd C dL_law_414 ?_
      obtain ⟨hi415, hm⟩ := ifn hm
      refine g_sald C hs hi415 dL_law_415 ?_
      obtain ⟨r416, hr416, hm⟩ := bnd_some hm
      refine g_callVi_k (As := [vI (xs (l4 + (1 : Int32)).toNatClampNeg)]) (rest := []) C lk_L_115 (k_X10_dropCell X.2.1 G hl hG fu (xs (l4 + (1 : Int32)).toNatClampNeg) r404.2 r416 hkm hr416) (by decide) rfl rfl rfl (Nat.le_of_ble_eq_true rfl) ⟨Nat.le_trans (Nat.le_of_ble_eq_true rfl) hrf, Nat.le_trans (Nat.le_of_ble_eq_true rfl) hrl⟩ hq dL_law_416 ?_
      refine g_istore (ls' := [(6, vI r416.1), (5, vI r404.1), (0, vR 24 0), (1, vR 9 0), (2, vR 10 0), (3, vR 23 0), (4, vI l4)]) C dL_law_419 (by decide) rfl ?_
      refine g_aload_n C 4 dL_law_421 rfl rfl ?_
      obtain ⟨r422, hr422, hm⟩ := bnd_some hm
      refine g_callVi_k (As := []) (rest := []) C lk_L_99 (k_X10_thrown X.2.1 G hl hG fu  r416.2 r422 hkm hr422) (by decide) rfl rfl rfl (Nat.le_of_ble_eq_true rfl) ⟨Nat.le_trans (Nat.le_of_ble_eq_true rfl) hrf, Nat.le_trans (Nat.le_of_ble_eq_true rfl) hrl⟩ hq dL_law_422 ?_
      refine g_iload C 1 dL_law_425 rfl ?_
      refine g_icmp_eq (tgt := 432) C dL_law_427 (by decide) (fun h427 => ?_) (fun h427 => ?_)
      · have hm := ift hm h427
        refine g_iload C 1 dL_law_432 rfl ?_
        refine g_if_ne (tgt := 449) C dL_law_434 (by decide) (fun h434 => ?_) (fun h434 => ?_)
        · have hm := ife hm h434
          exact g_sub [2, 3, 4, 5, 6] rfl (g_pc rfl (J449  r422.2 hm))
        · have hm := ift hm h434
          refine g_aload_n C 5 dL_law_437 rfl rfl ?_
          refine g_iconst (v := 0) C dL_law_438 rfl ?_
          obtain ⟨hi439, hm⟩ := ifn hm
          refine g_lald C (by decide) hi439 dL_law_439 ?_
          refine g_iload C 0 dL_law_440 rfl ?_
          refine g_i2l C dL_law_442 ?_
          refine g_lcmp C dL_law_443 ?_
          refine g_if_eq (tgt := 449) C dL_law_444 (by decide) (fun h444 => ?_) (fun h444 => ?_)
          · have hm := ift hm h444
            exact g_sub [2, 3, 4, 5, 6] rfl (g_pc rfl (J449  r422.2 hm))
          · have hm := ife hm h444
            refine g_iconst (v := 0) C dL_law_447 rfl ?_
            obtain rfl := Option.some.inj hm
            have e23 := K23.2 _ rfl
            subst e23
            obtain rfl := Option.some.inj hk23
            exact absurd (show (0 : Int32) = 1 from h1) (by decide)
      · have hm := ife hm h427
        refine g_iconst (v := 0) C dL_law_430 rfl ?_
        obtain rfl := Option.some.inj hm
        have e23 := K23.2 _ rfl
        subst e23
        obtain rfl := Option.some.inj hk23
        exact absurd (show (0 : Int32) = 1 from h1) (by decide)
    have hm := ife hm h39_4
    by_cases h39_5 : ((xs l4.toNatClampNeg) &&& (31 : Int32)) = (5 : Int32)
    · have hm := ift hm h39_5
      refine g_tabIn (off := 413) (tgt := 452) C dL_law_39 (by rw [h39_5]; decide) (by rw [h39_5]; decide) (by rw [h39_5]; rfl) (by decide) ?_
      refine g_aload_n C 1 dL_law_452 rfl rfl ?_
      refine g_aload_n C 0 dL_law_453 rfl rfl ?_
      refine g_iload C 4 dL_law_454 rfl ?_
      refine g_iconst (v := 1) C dL_law_456 rfl ?_
      refine g_iadd C dL_law_457 ?_
      obtain ⟨hi458, hm⟩ := ifn hm
      refine g_sald C hs hi458 dL_law_458 ?_
      refine g_aload_n C 3 dL_law_459 rfl rfl ?_
      obtain ⟨r460, hr460, hm⟩ := bnd_some hm
      refine g_callSwB (As := [vR 9 0, vI (xs (l4 + (1 : Int32)).toNatClampNeg), vR 23 0]) (rest := []) C lkw_116 (k_L_append X.2.1 G hl hG fu (xs (l4 + (1 : Int32)).toNatClampNeg) M r460 hk9 hko hr460) rfl rfl (Nat.le_of_ble_eq_true rfl) ⟨Nat.le_trans (Nat.le_of_ble_eq_true rfl) hrf, Nat.le_trans (Nat.le_of_ble_eq_true rfl) hrl⟩ hq1 dL_law_460 ?_
      have C := C1
      have hq := hq1
      refine g_istore (ls' := [(5, vI r460.1), (0, vR 24 0), (1, vR 9 0), (2, vR 10 0), (3, vR 23 0), (4, vI l4)]) C dL_law_463 (by decide) rfl ?_
      refine g_aload_n C 3 dL_law_465 rfl rfl ?_
      refine g_aload_n C 1 dL_law_466 rfl rfl ?_
      refine g_iload C 5 dL_law_467 rfl ?_
      refine g_iconst (v := 1) C dL_law_469 rfl ?_
      refine g_iadd C dL_law_470 ?_
      obtain ⟨hi471, hm⟩ := ifn hm
      refine g_sald C hs hi471 dL_law_471 ?_
      obtain ⟨r472, hr472, hm⟩ := bnd_some hm
      refine g_callVi_k (As := [vI (xs (l4 + (1 : Int32)).toNatClampNeg)]) (rest := []) C lk_L_118 (k_X10_append X.2.1 G hl hG fu (xs (l4 + (1 : Int32)).toNatClampNeg) r460.2 r472 hkm hr472) (by decide) rfl rfl rfl (Nat.le_of_ble_eq_true rfl) ⟨Nat.le_trans (Nat.le_of_ble_eq_true rfl) hrf, Nat.le_trans (Nat.le_of_ble_eq_true rfl) hrl⟩ hq dL_law_472 ?_
      refine g_istore (ls' := [(6, vI r472.1), (5, vI r460.1), (0, vR 24 0), (1, vR 9 0), (2, vR 10 0), (3, vR 23 0), (4, vI l4)]) C dL_law_475 (by decide) rfl ?_
      refine g_aload_n C 4 dL_law_477 rfl rfl ?_
      obtain ⟨r478, hr478, hm⟩ := bnd_some hm
      refine g_callVi_k (As := []) (rest := []) C lk_L_99 (k_X10_thrown X.2.1 G hl hG fu  r472.2 r478 hkm hr478) (by decide) rfl rfl rfl (Nat.le_of_ble_eq_true rfl) ⟨Nat.le_trans (Nat.le_of_ble_eq_true rfl) hrf, Nat.le_trans (Nat.le_of_ble_eq_true rfl) hrl⟩ hq dL_law_478 ?_
      refine g_iload C 1 dL_law_481 rfl ?_
      refine g_icmp_eq (tgt := 488) C dL_law_483 (by decide) (fun h483 => ?_) (fun h483 => ?_)
      · have hm := ift hm h483
        refine g_iload C 1 dL_law_488 rfl ?_
        refine g_if_ne (tgt := 505) C dL_law_490 (by decide) (fun h490 => ?_) (fun h490 => ?_)
        · have hm := ife hm h490
          exact g_sub [2, 3, 4, 5, 6] rfl (g_pc rfl (J505  r478.2 hm))
        · have hm := ift hm h490
          refine g_aload_n C 5 dL_law_493 rfl rfl ?_
          refine g_iconst (v := 0) C dL_law_494 rfl ?_
          obtain ⟨hi495, hm⟩ := ifn hm
          refine g_lald C (by decide) hi495 dL_law_495 ?_
          refine g_iload C 0 dL_law_496 rfl ?_
          refine g_i2l C dL_law_498 ?_
          refine g_lcmp C dL_law_499 ?_
          refine g_if_eq (tgt := 505) C dL_law_500 (by decide) (fun h500 => ?_) (fun h500 => ?_)
          · have hm := ift hm h500
            exact g_sub [2, 3, 4, 5, 6] rfl (g_pc rfl (J505  r478.2 hm))
          · have hm := ife hm h500
            refine g_iconst (v := 0) C dL_law_503 rfl ?_
            obtain rfl := Option.some.inj hm
            have e23 := K23.2 _ rfl
            subst e23
            obtain rfl := Option.some.inj hk23
            exact absurd (show (0 : Int32) = 1 from h1) (by decide)
      · have hm := ife hm h483
        refine g_iconst (v := 0) C dL_law_486 rfl ?_
        obtain rfl := Option.some.inj hm
        have e23 := K23.2 _ rfl
        subst e23
        obtain rfl := Option.some.inj hk23
        exact absurd (show (0 : Int32) = 1 from h1) (by decide)
    have hm := ife hm h39_5
    by_cases h39_6 : ((xs l4.toNatClampNeg) &&& (31 : Int32)) = (6 : Int32)
    · have hm := ift hm h39_6
      refine g_tabIn (off := 469) (tgt := 508) C dL_law_39 (by rw [h39_6]; decide) (by rw [h39_6]; decide) (by rw [h39_6]; rfl) (by decide) ?_
      refine g_aload_n C 1 dL_law_508 rfl rfl ?_
      obtain ⟨r509, hr509, hm⟩ := bnd_some hm
      refine g_callVi_k (As := []) (rest := []) C lk_L_119 (k_X9_clearInput X.2.1 G hl hG fu  M r509 hk9 hr509) (by decide) rfl rfl rfl (Nat.le_of_ble_eq_true rfl) ⟨Nat.le_trans (Nat.le_of_ble_eq_true rfl) hrf, Nat.le_trans (Nat.le_of_ble_eq_true rfl) hrl⟩ hq dL_law_509 ?_
      refine g_aload_n C 2 dL_law_512 rfl rfl ?_
      obtain ⟨r513, hr513, hm⟩ := bnd_some hm
      refine g_callVi_k (As := []) (rest := [vI r509.1]) C lk_L_122 (k_X10_clearInput X.2.1 G hl hG fu  r509.2 r513 hkm hr513) (by decide) rfl rfl rfl (Nat.le_of_ble_eq_true rfl) ⟨Nat.le_trans (Nat.le_of_ble_eq_true rfl) hrf, Nat.le_trans (Nat.le_of_ble_eq_true rfl) hrl⟩ hq dL_law_513 ?_
      refine g_icmp_eq (tgt := 1751) C dL_law_516 (by decide) (fun h516 => ?_) (fun h516 => ?_)
      · have hm := ift hm h516
        refine g_wdB ?_
        exact g_sub [0, 1, 2, 3, 4] rfl (g_pc rfl (J1751  r513.2 hm))
      · have hm := ife hm h516
        refine g_iconst (v := 0) C dL_law_519 rfl ?_
        obtain rfl := Option.some.inj hm
        have e23 := K23.2 _ rfl
        subst e23
        obtain rfl := Option.some.inj hk23
        exact absurd (show (0 : Int32) = 1 from h1) (by decide)
    have hm := ife hm h39_6
    by_cases h39_7 : ((xs l4.toNatClampNeg) &&& (31 : Int32)) = (7 : Int32)
    · have hm := ift hm h39_7
      refine g_tabIn (off := 482) (tgt := 521) C dL_law_39 (by rw [h39_7]; decide) (by rw [h39_7]; decide) (by rw [h39_7]; rfl) (by decide) ?_
      refine g_aload_n C 1 dL_law_521 rfl rfl ?_
      obtain ⟨r522, hr522, hm⟩ := bnd_some hm
      refine g_callVi_k (As := []) (rest := []) C lk_L_123 (k_X9_firstError X.2.1 G hl hG fu  M r522 hk9 hr522) (by decide) rfl rfl rfl (Nat.le_of_ble_eq_true rfl) ⟨Nat.le_trans (Nat.le_of_ble_eq_true rfl) hrf, Nat.le_trans (Nat.le_of_ble_eq_true rfl) hrl⟩ hq dL_law_522 ?_
      refine g_aload_n C 2 dL_law_525 rfl rfl ?_
      obtain ⟨r526, hr526, hm⟩ := bnd_some hm
      refine g_callVi_k (As := []) (rest := [vI r522.1]) C lk_L_126 (k_X10_firstError X.2.1 G hl hG fu  r522.2 r526 hkm hr526) (by decide) rfl rfl rfl (Nat.le_of_ble_eq_true rfl) ⟨Nat.le_trans (Nat.le_of_ble_eq_true rfl) hrf, Nat.le_trans (Nat.le_of_ble_eq_true rfl) hrl⟩ hq dL_law_526 ?_
      refine g_icmp_eq (tgt := 1751) C dL_law_529 (by decide) (fun h529 => ?_) (fun h529 => ?_)
      · have hm := ift hm h529
        refine g_wdB ?_
        exact g_sub [0, 1, 2, 3, 4] rfl (g_pc rfl (J1751  r526.2 hm))
      · have hm := ife hm h529
        refine g_iconst (v := 0) C dL_law_532 rfl ?_
        obtain rfl := Option.some.inj hm
        have e23 := K23.2 _ rfl
        subst e23
        obtain rfl := Option.some.inj hk23
        exact absurd (show (0 : Int32) = 1 from h1) (by decide)
    have hm := ife hm h39_7
    by_cases h39_8 : ((xs l4.toNatClampNeg) &&& (31 : Int32)) = (8 : Int32)
    · have hm := ift hm h39_8
      refine g_tabIn (off := 495) (tgt := 534) C dL_law_39 (by rw [h39_8]; decide) (by rw [h39_8]; decide) (by rw [h39_8]; rfl) (by decide) ?_
      refine g_aload_n C 1 dL_law_534 rfl rfl ?_
      refine g_aload_n C 3 dL_law_535 rfl rfl ?_
      obtain ⟨r536, hr536, hm⟩ := bnd_some hm
      refine g_callSwB (As := [vR 9 0, vR 23 0]) (rest := []) C lkw_127 (k_L_load X.2.1 G hl hG fu  M r536 hk9 hko hr536) rfl rfl (Nat.le_of_ble_eq_true rfl) ⟨Nat.le_trans (Nat.le_of_ble_eq_true rfl) hrf, Nat.le_trans (Nat.le_of_ble_eq_true rfl) hrl⟩ hq1 dL_law_536 ?_
      have C := C1
      have hq := hq1
      refine g_istore (ls' := [(5, vI r536.1), (0, vR 24 0), (1, vR 9 0), (2, vR 10 0), (3, vR 23 0), (4, vI l4)]) C dL_law_539 (by decide) rfl ?_
      refine g_aload_n C 3 dL_law_541 rfl rfl ?_
      obtain ⟨r542, hr542, hm⟩ := bnd_some hm
      refine g_callVi_k (As := []) (rest := []) C lk_L_129 (k_X10_load X.2.1 G hl hG fu  r536.2 r542 hkm hr542) (by decide) rfl rfl rfl (Nat.le_of_ble_eq_true rfl) ⟨Nat.le_trans (Nat.le_of_ble_eq_true rfl) hrf, Nat.le_trans (Nat.le_of_ble_eq_true rfl) hrl⟩ hq dL_law_542 ?_
      refine g_istore (ls' := [(6, vI r542.1), (5, vI r536.1), (0, vR 24 0), (1, vR 9 0), (2, vR 10 0), (3, vR 23 0), (4, vI l4)]) C dL_law_545 (by decide) rfl ?_
      refine g_aload_n C 4 dL_law_547 rfl rfl ?_
      obtain ⟨r548, hr548, hm⟩ := bnd_some hm
      refine g_callVi_k (As := []) (rest := []) C lk_L_99 (k_X10_thrown X.2.1 G hl hG fu  r542.2 r548 hkm hr548) (by decide) rfl rfl rfl (Nat.le_of_ble_eq_true rfl) ⟨Nat.le_trans (Nat.le_of_ble_eq_true rfl) hrf, Nat.le_trans (Nat.le_of_ble_eq_true rfl) hrl⟩ hq dL_law_548 ?_
      refine g_iload C 1 dL_law_551 rfl ?_
      refine g_icmp_eq (tgt := 558) C dL_law_553 (by decide) (fun h553 => ?_) (fun h553 => ?_)
      · have hm := ift hm h553
        refine g_iload C 1 dL_law_558 rfl ?_
        refine g_if_ne (tgt := 575) C dL_law_560 (by decide) (fun h560 => ?_) (fun h560 => ?_)
        · have hm := ife hm h560
          exact g_sub [2, 3, 4, 5, 6] rfl (g_pc rfl (J575  r548.2 hm))
        · have hm := ift hm h560
          refine g_aload_n C 5 dL_law_563 rfl rfl ?_
          refine g_iconst (v := 0) C dL_law_564 rfl ?_
          obtain ⟨hi565, hm⟩ := ifn hm
          refine g_lald C (by decide) hi565 dL_law_565 ?_
          refine g_iload C 0 dL_law_566 rfl ?_
          refine g_i2l C dL_law_568 ?_
          refine g_lcmp C dL_law_569 ?_
          refine g_if_eq (tgt := 575) C dL_law_570 (by decide) (fun h570 => ?_) (fun h570 => ?_)
          · have hm := ift hm h570
            exact g_sub [2, 3, 4, 5, 6] rfl (g_pc rfl (J575  r548.2 hm))
          · have hm := ife hm h570
            refine g_iconst (v := 0) C dL_law_573 rfl ?_
            obtain rfl := Option.some.inj hm
            have e23 := K23.2 _ rfl
            subst e23
            obtain rfl := Option.some.inj hk23
            exact absurd (show (0 : Int32) = 1 from h1) (by decide)
      · have hm := ife hm h553
        refine g_iconst (v := 0) C dL_law_556 rfl ?_
        obtain rfl := Option.some.inj hm
        have e23 := K23.2 _ rfl
        subst e23
        obtain rfl := Option.some.inj hk23
        exact absurd (show (0 : Int32) = 1 from h1) (by decide)
    have hm := ife hm h39_8
    by_cases h39_9 : ((xs l4.toNatClampNeg) &&& (31 : Int32)) = (9 : Int32)
    · have hm := ift hm h39_9
      refine g_tabIn (off := 539) (tgt := 578) C dL_law_39 (by rw [h39_9]; decide) (by rw [h39_9]; decide) (by rw [h39_9]; rfl) (by decide) ?_
      refine g_aload_n C 1 dL_law_578 rfl rfl ?_
      obtain ⟨r579, hr579, hm⟩ := bnd_some hm
      refine g_callVi_k (As := []) (rest := []) C lk_L_130 (k_X9_find X.2.1 G hl hG fu  M r579 hk9 hr579) (by decide) rfl rfl rfl (Nat.le_of_ble_eq_true rfl) ⟨Nat.le_trans (Nat.le_of_ble_eq_true rfl) hrf, Nat.le_trans (Nat.le_of_ble_eq_true rfl) hrl⟩ hq dL_law_579 ?_
      refine g_aload_n C 2 dL_law_582 rfl rfl ?_
      obtain ⟨r583, hr583, hm⟩ := bnd_some hm
      refine g_callVi_k (As := []) (rest := [vI r579.1]) C lk_L_133 (k_X10_find X.2.1 G hl hG fu  r579.2 r583 hkm hr583) (by decide) rfl rfl rfl (Nat.le_of_ble_eq_true rfl) ⟨Nat.le_trans (Nat.le_of_ble_eq_true rfl) hrf, Nat.le_trans (Nat.le_of_ble_eq_true rfl) hrl⟩ hq dL_law_583 ?_
      refine g_icmp_eq (tgt := 1751) C dL_law_586 (by decide) (fun h586 => ?_) (fun h586 => ?_)
      · have hm := ift hm h586
        refine g_wdB ?_
        exact g_sub [0, 1, 2, 3, 4] rfl (g_pc rfl (J1751  r583.2 hm))
      · have hm := ife hm h586
        refine g_iconst (v := 0) C dL_law_589 rfl ?_
        obtain rfl := Option.some.inj hm
        have e23 := K23.2 _ rfl
        subst e23
        obtain rfl := Option.some.inj hk23
        exact absurd (show (0 : Int32) = 1 from h1) (by decide)
    have hm := ife hm h39_9
    by_cases h39_10 : ((xs l4.toNatClampNeg) &&& (31 : Int32)) = (10 : Int32)
    · have hm := ift hm h39_10
      refine g_tabIn (off := 552) (tgt := 591) C dL_law_39 (by rw [h39_10]; decide) (by rw [h39_10]; decide) (by rw [h39_10]; rfl) (by decide) ?_
      refine g_aload_n C 1 dL_law_591 rfl rfl ?_
      refine g_aload_n C 0 dL_law_592 rfl rfl ?_
      refine g_iload C 4 dL_law_593 rfl ?_
      refine g_iconst (v := 1) C dL_law_595 rfl ?_
      refine g_iadd C dL_law_596 ?_
      obtain ⟨hi597, hm⟩ := ifn hm
      refine g_sald C hs hi597 dL_law_597 ?_
      refine g_aload_n C 0 dL_law_598 rfl rfl ?_
      refine g_iload C 4 dL_law_599 rfl ?_
      refine g_iconst (v := 2) C dL_law_601 rfl ?_
      refine g_iadd C dL_law_602 ?_
      obtain ⟨hi603, hm⟩ := ifn hm
      refine g_sald C hs hi603 dL_law_603 ?_
      refine g_aload_n C 3 dL_law_604 rfl rfl ?_
      obtain ⟨r605, hr605, hm⟩ := bnd_some hm
      refine g_callSwB (As := [vR 9 0, vI (xs (l4 + (1 : Int32)).toNatClampNeg), vI (xs (l4 + (2 : Int32)).toNatClampNeg), vR 23 0]) (rest := []) C lkw_134 (k_L_path X.2.1 G hl hG fu (xs (l4 + (1 : Int32)).toNatClampNeg) (xs (l4 + (2 : Int32)).toNatClampNeg) M r605 hk9 hko hr605) rfl rfl (Nat.le_of_ble_eq_true rfl) ⟨Nat.le_trans (Nat.le_of_ble_eq_true rfl) hrf, Nat.le_trans (Nat.le_of_ble_eq_true rfl) hrl⟩ hq1 dL_law_605 ?_
      have C := C1
      have hq := hq1
      refine g_istore (ls' := [(5, vI r605.1), (0, vR 24 0), (1, vR 9 0), (2, vR 10 0), (3, vR 23 0), (4, vI l4)]) C dL_law_608 (by decide) rfl ?_
      refine g_aload_n C 3 dL_law_610 rfl rfl ?_
      refine g_aload_n C 1 dL_law_611 rfl rfl ?_
      refine g_iload C 5 dL_law_612 rfl ?_
      refine g_iconst (v := 1) C dL_law_614 rfl ?_
      refine g_iadd C dL_law_615 ?_
      obtain ⟨hi616, hm⟩ := ifn hm
      refine g_sald C hs hi616 dL_law_616 ?_
      refine g_aload_n C 1 dL_law_617 rfl rfl ?_
      refine g_iload C 5 dL_law_618 rfl ?_
      refine g_iconst (v := 2) C dL_law_620 rfl ?_
      refine g_iadd C dL_law_621 ?_
      obtain ⟨hi622, hm⟩ := ifn hm
      refine g_sald C hs hi622 dL_law_622 ?_
      obtain ⟨r623, hr623, hm⟩ := bnd_some hm
      refine g_callVi_k (As := [vI (xs (l4 + (1 : Int32)).toNatClampNeg), vI (xs (l4 + (2 : Int32)).toNatClampNeg)]) (rest := []) C lk_L_136 (k_X10_path X.2.1 G hl hG fu (xs (l4 + (1 : Int32)).toNatClampNeg) (xs (l4 + (2 : Int32)).toNatClampNeg) r605.2 r623 hkm hr623) (by decide) rfl rfl rfl (Nat.le_of_ble_eq_true rfl) ⟨Nat.le_trans (Nat.le_of_ble_eq_true rfl) hrf, Nat.le_trans (Nat.le_of_ble_eq_true rfl) hrl⟩ hq dL_law_623 ?_
      refine g_istore (ls' := [(6, vI r623.1), (5, vI r605.1), (0, vR 24 0), (1, vR 9 0), (2, vR 10 0), (3, vR 23 0), (4, vI l4)]) C dL_law_626 (by decide) rfl ?_
      refine g_aload_n C 4 dL_law_628 rfl rfl ?_
      obtain ⟨r629, hr629, hm⟩ := bnd_some hm
      refine g_callVi_k (As := []) (rest := []) C lk_L_99 (k_X10_thrown X.2.1 G hl hG fu  r623.2 r629 hkm hr629) (by decide) rfl rfl rfl (Nat.le_of_ble_eq_true rfl) ⟨Nat.le_trans (Nat.le_of_ble_eq_true rfl) hrf, Nat.le_trans (Nat.le_of_ble_eq_true rfl) hrl⟩ hq dL_law_629 ?_
      refine g_iload C 1 dL_law_632 rfl ?_
      refine g_icmp_eq (tgt := 639) C dL_law_634 (by decide) (fun h634 => ?_) (fun h634 => ?_)
      · have hm := ift hm h634
        refine g_iload C 1 dL_law_639 rfl ?_
        refine g_if_ne (tgt := 656) C dL_law_641 (by decide) (fun h641 => ?_) (fun h641 => ?_)
        · have hm := ife hm h641
          exact g_sub [2, 3, 4, 5, 6] rfl (g_pc rfl (J656  r629.2 hm))
        · have hm := ift hm h641
          refine g_aload_n C 5 dL_law_644 rfl rfl ?_
          refine g_iconst (v := 0) C dL_law_645 rfl ?_
          obtain ⟨hi646, hm⟩ := ifn hm
          refine g_lald C (by decide) hi646 dL_law_646 ?_
          refine g_iload C 0 dL_law_647 rfl ?_
          refine g_i2l C dL_law_649 ?_
          refine g_lcmp C dL_law_650 ?_
          refine g_if_eq (tgt := 656) C dL_law_651 (by decide) (fun h651 => ?_) (fun h651 => ?_)
          · have hm := ift hm h651
            exact g_sub [2, 3, 4, 5, 6] rfl (g_pc rfl (J656  r629.2 hm))
          · have hm := ife hm h651
            refine g_iconst (v := 0) C dL_law_654 rfl ?_
            obtain rfl := Option.some.inj hm
            have e23 := K23.2 _ rfl
            subst e23
            obtain rfl := Option.some.inj hk23
            exact absurd (show (0 : Int32) = 1 from h1) (by decide)
      · have hm := ife hm h634
        refine g_iconst (v := 0) C dL_law_637 rfl ?_
        obtain rfl := Option.some.inj hm
        have e23 := K23.2 _ rfl
        subst e23
        obtain rfl := Option.some.inj hk23
        exact absurd (show (0 : Int32) = 1 from h1) (by decide)
    have hm := ife hm h39_10
    by_cases h39_11 : ((xs l4.toNatClampNeg) &&& (31 : Int32)) = (11 : Int32)
    · have hm := ift hm h39_11
      refine g_tabIn (off := 620) (tgt := 659) C dL_law_39 (by rw [h39_11]; decide) (by rw [h39_11]; decide) (by rw [h39_11]; rfl) (by decide) ?_
      refine g_aload_n C 1 dL_law_659 rfl rfl ?_
      refine g_aload_n C 0 dL_law_660 rfl rfl ?_
      refine g_iload C 4 dL_law_661 rfl ?_
      refine g_iconst (v := 1) C dL_law_663 rfl ?_
      refine g_iadd C dL_law_664 ?_
      obtain ⟨hi665, hm⟩ := ifn hm
      refine g_sald C hs hi665 dL_law_665 ?_
      refine g_aload_n C 0 dL_law_666 rfl rfl ?_
      refine g_iload C 4 dL_law_667 rfl ?_
      refine g_iconst (v := 2) C dL_law_669 rfl ?_
      refine g_iadd C dL_law_670 ?_
      obtain ⟨hi671, hm⟩ := ifn hm
      refine g_sald C hs hi671 dL_law_671 ?_
      refine g_aload_n C 3 dL_law_672 rfl rfl ?_
      obtain ⟨r673, hr673, hm⟩ := bnd_some hm
      refine g_callSwB (As := [vR 9 0, vI (xs (l4 + (1 : Int32)).toNatClampNeg), vI (xs (l4 + (2 : Int32)).toNatClampNeg), vR 23 0]) (rest := []) C lkw_137 (k_L_arrowOf X.2.1 G hl hG fu (xs (l4 + (1 : Int32)).toNatClampNeg) (xs (l4 + (2 : Int32)).toNatClampNeg) M r673 hk9 hko hr673) rfl rfl (Nat.le_of_ble_eq_true rfl) ⟨Nat.le_trans (Nat.le_of_ble_eq_true rfl) hrf, Nat.le_trans (Nat.le_of_ble_eq_true rfl) hrl⟩ hq1 dL_law_673 ?_
      have C := C1
      have hq := hq1
      refine g_istore (ls' := [(5, vI r673.1), (0, vR 24 0), (1, vR 9 0), (2, vR 10 0), (3, vR 23 0), (4, vI l4)]) C dL_law_676 (by decide) rfl ?_
      refine g_aload_n C 3 dL_law_678 rfl rfl ?_
      refine g_aload_n C 1 dL_law_679 rfl rfl ?_
      refine g_iload C 5 dL_law_680 rfl ?_
      refine g_iconst (v := 1) C dL_law_682 rfl ?_
      refine g_iadd C dL_law_683 ?_
      obtain ⟨hi684, hm⟩ := ifn hm
      refine g_sald C hs hi684 dL_law_684 ?_
      refine g_aload_n C 1 dL_law_685 rfl rfl ?_
      refine g_iload C 5 dL_law_686 rfl ?_
      refine g_iconst (v := 2) C dL_law_688 rfl ?_
      refine g_iadd C dL_law_689 ?_
      obtain ⟨hi690, hm⟩ := ifn hm
      refine g_sald C hs hi690 dL_law_690 ?_
      obtain ⟨r691, hr691, hm⟩ := bnd_some hm
      refine g_callVi_k (As := [vI (xs (l4 + (1 : Int32)).toNatClampNeg), vI (xs (l4 + (2 : Int32)).toNatClampNeg)]) (rest := []) C lk_L_139 (k_X10_arrowOf X.2.1 G hl hG fu (xs (l4 + (1 : Int32)).toNatClampNeg) (xs (l4 + (2 : Int32)).toNatClampNeg) r673.2 r691 hkm hr691) (by decide) rfl rfl rfl (Nat.le_of_ble_eq_true rfl) ⟨Nat.le_trans (Nat.le_of_ble_eq_true rfl) hrf, Nat.le_trans (Nat.le_of_ble_eq_true rfl) hrl⟩ hq dL_law_691 ?_
      refine g_istore (ls' := [(6, vI r691.1), (5, vI r673.1), (0, vR 24 0), (1, vR 9 0), (2, vR 10 0), (3, vR 23 0), (4, vI l4)]) C dL_law_694 (by decide) rfl ?_
      refine g_aload_n C 4 dL_law_696 rfl rfl ?_
      obtain ⟨r697, hr697, hm⟩ := bnd_some hm
      refine g_callVi_k (As := []) (rest := []) C lk_L_99 (k_X10_thrown X.2.1 G hl hG fu  r691.2 r697 hkm hr697) (by decide) rfl rfl rfl (Nat.le_of_ble_eq_true rfl) ⟨Nat.le_trans (Nat.le_of_ble_eq_true rfl) hrf, Nat.le_trans (Nat.le_of_ble_eq_true rfl) hrl⟩ hq dL_law_697 ?_
      refine g_iload C 1 dL_law_700 rfl ?_
      refine g_icmp_eq (tgt := 707) C dL_law_702 (by decide) (fun h702 => ?_) (fun h702 => ?_)
      · have hm := ift hm h702
        refine g_iload C 1 dL_law_707 rfl ?_
        refine g_if_ne (tgt := 724) C dL_law_709 (by decide) (fun h709 => ?_) (fun h709 => ?_)
        · have hm := ife hm h709
          exact g_sub [2, 3, 4, 5, 6] rfl (g_pc rfl (J724  r697.2 hm))
        · have hm := ift hm h709
          refine g_aload_n C 5 dL_law_712 rfl rfl ?_
          refine g_iconst (v := 0) C dL_law_713 rfl ?_
          obtain ⟨hi714, hm⟩ := ifn hm
          refine g_lald C (by decide) hi714 dL_law_714 ?_
          refine g_iload C 0 dL_law_715 rfl ?_
          refine g_i2l C dL_law_717 ?_
          refine g_lcmp C dL_law_718 ?_
          refine g_if_eq (tgt := 724) C dL_law_719 (by decide) (fun h719 => ?_) (fun h719 => ?_)
          · have hm := ift hm h719
            exact g_sub [2, 3, 4, 5, 6] rfl (g_pc rfl (J724  r697.2 hm))
          · have hm := ife hm h719
            refine g_iconst (v := 0) C dL_law_722 rfl ?_
            obtain rfl := Option.some.inj hm
            have e23 := K23.2 _ rfl
            subst e23
            obtain rfl := Option.some.inj hk23
            exact absurd (show (0 : Int32) = 1 from h1) (by decide)
      · have hm := ife hm h702
        refine g_iconst (v := 0) C dL_law_705 rfl ?_
        obtain rfl := Option.some.inj hm
        have e23 := K23.2 _ rfl
        subst e23
        obtain rfl := Option.some.inj hk23
        exact absurd (show (0 : Int32) = 1 from h1) (by decide)
    have hm := ife hm h39_11
    by_cases h39_12 : ((xs l4.toNatClampNeg) &&& (31 : Int32)) = (12 : Int32)
    · have hm := ift hm h39_12
      refine g_tabIn (off := 688) (tgt := 727) C dL_law_39 (by rw [h39_12]; decide) (by rw [h39_12]; decide) (by rw [h39_12]; rfl) (by decide) ?_
      refine g_aload_n C 1 dL_law_727 rfl rfl ?_
      refine g_aload_n C 0 dL_law_728 rfl rfl ?_
      refine g_iload C 4 dL_law_729 rfl ?_
      refine g_iconst (v := 1) C dL_law_731 rfl ?_
      refine g_iadd C dL_law_732 ?_
      obtain ⟨hi733, hm⟩ := ifn hm
      refine g_sald C hs hi733 dL_law_733 ?_
      refine g_aload_n C 0 dL_law_734 rfl rfl ?_
      refine g_iload C 4 dL_law_735 rfl ?_
      refine g_iconst (v := 2) C dL_law_737 rfl ?_
      refine g_iadd C dL_law_738 ?_
      obtain ⟨hi739, hm⟩ := ifn hm
      refine g_sald C hs hi739 dL_law_739 ?_
      refine g_aload_n C 0 dL_law_740 rfl rfl ?_
      refine g_iload C 4 dL_law_741 rfl ?_
      refine g_iconst (v := 3) C dL_law_743 rfl ?_
      refine g_iadd C dL_law_744 ?_
      obtain ⟨hi745, hm⟩ := ifn hm
      refine g_sald C hs hi745 dL_law_745 ?_
      refine g_if_eq (tgt := 753) C dL_law_746 (by decide) (fun h746 => ?_) (fun h746 => ?_)
      · have hm := ift hm h746
        refine g_iconst (v := 0) C dL_law_753 rfl ?_
        exact g_sub [0, 1, 2, 3, 4] rfl (g_pc rfl (J754 (xs (l4 + (1 : Int32)).toNatClampNeg) (xs (l4 + (2 : Int32)).toNatClampNeg) (0 : Int32) M hm))
      · have hm := ife hm h746
        refine g_iconst (v := 1) C dL_law_749 rfl ?_
        refine g_goto (tgt := 754) C dL_law_750 (by decide) ?_
        exact g_sub [0, 1, 2, 3, 4] rfl (g_pc rfl (J754 (xs (l4 + (1 : Int32)).toNatClampNeg) (xs (l4 + (2 : Int32)).toNatClampNeg) (1 : Int32) M hm))
    have hm := ife hm h39_12
    by_cases h39_13 : ((xs l4.toNatClampNeg) &&& (31 : Int32)) = (13 : Int32)
    · have hm := ift hm h39_13
      refine g_tabIn (off := 784) (tgt := 823) C dL_law_39 (by rw [h39_13]; decide) (by rw [h39_13]; decide) (by rw [h39_13]; rfl) (by decide) ?_
      refine g_aload_n C 1 dL_law_823 rfl rfl ?_
      refine g_aload_n C 0 dL_law_824 rfl rfl ?_
      refine g_iload C 4 dL_law_825 rfl ?_
      refine g_iconst (v := 1) C dL_law_827 rfl ?_
      refine g_iadd C dL_law_828 ?_
      obtain ⟨hi829, hm⟩ := ifn hm
      refine g_sald C hs hi829 dL_law_829 ?_
      refine g_aload_n C 0 dL_law_830 rfl rfl ?_
      refine g_iload C 4 dL_law_831 rfl ?_
      refine g_iconst (v := 2) C dL_law_833 rfl ?_
      refine g_iadd C dL_law_834 ?_
      obtain ⟨hi835, hm⟩ := ifn hm
      refine g_sald C hs hi835 dL_law_835 ?_
      refine g_aload_n C 3 dL_law_836 rfl rfl ?_
      obtain ⟨r837, hr837, hm⟩ := bnd_some hm
      refine g_callSwB (As := [vR 9 0, vI (xs (l4 + (1 : Int32)).toNatClampNeg), vI (xs (l4 + (2 : Int32)).toNatClampNeg), vR 23 0]) (rest := []) C lkw_144 (k_L_distance X.2.1 G hl hG fu (xs (l4 + (1 : Int32)).toNatClampNeg) (xs (l4 + (2 : Int32)).toNatClampNeg) M r837 hk9 hko hr837) rfl rfl (Nat.le_of_ble_eq_true rfl) ⟨Nat.le_trans (Nat.le_of_ble_eq_true rfl) hrf, Nat.le_trans (Nat.le_of_ble_eq_true rfl) hrl⟩ hq1 dL_law_837 ?_
      have C := C1
      have hq := hq1
      refine g_istore (ls' := [(5, vI r837.1), (0, vR 24 0), (1, vR 9 0), (2, vR 10 0), (3, vR 23 0), (4, vI l4)]) C dL_law_840 (by decide) rfl ?_
      refine g_aload_n C 3 dL_law_842 rfl rfl ?_
      refine g_aload_n C 1 dL_law_843 rfl rfl ?_
      refine g_iload C 5 dL_law_844 rfl ?_
      refine g_iconst (v := 1) C dL_law_846 rfl ?_
      refine g_iadd C dL_law_847 ?_
      obtain ⟨hi848, hm⟩ := ifn hm
      refine g_sald C hs hi848 dL_law_848 ?_
      refine g_aload_n C 1 dL_law_849 rfl rfl ?_
      refine g_iload C 5 dL_law_850 rfl ?_
      refine g_iconst (v := 2) C dL_law_852 rfl ?_
      refine g_iadd C dL_law_853 ?_
      obtain ⟨hi854, hm⟩ := ifn hm
      refine g_sald C hs hi854 dL_law_854 ?_
      obtain ⟨r855, hr855, hm⟩ := bnd_some hm
      refine g_callVi_k (As := [vI (xs (l4 + (1 : Int32)).toNatClampNeg), vI (xs (l4 + (2 : Int32)).toNatClampNeg)]) (rest := []) C lk_L_146 (k_X10_distance X.2.1 G hl hG fu (xs (l4 + (1 : Int32)).toNatClampNeg) (xs (l4 + (2 : Int32)).toNatClampNeg) r837.2 r855 hkm hr855) (by decide) rfl rfl rfl (Nat.le_of_ble_eq_true rfl) ⟨Nat.le_trans (Nat.le_of_ble_eq_true rfl) hrf, Nat.le_trans (Nat.le_of_ble_eq_true rfl) hrl⟩ hq dL_law_855 ?_
      refine g_istore (ls' := [(6, vI r855.1), (5, vI r837.1), (0, vR 24 0), (1, vR 9 0), (2, vR 10 0), (3, vR 23 0), (4, vI l4)]) C dL_law_858 (by decide) rfl ?_
      refine g_aload_n C 4 dL_law_860 rfl rfl ?_
      obtain ⟨r861, hr861, hm⟩ := bnd_some hm
      refine g_callVi_k (As := []) (rest := []) C lk_L_99 (k_X10_thrown X.2.1 G hl hG fu  r855.2 r861 hkm hr861) (by decide) rfl rfl rfl (Nat.le_of_ble_eq_true rfl) ⟨Nat.le_trans (Nat.le_of_ble_eq_true rfl) hrf, Nat.le_trans (Nat.le_of_ble_eq_true rfl) hrl⟩ hq dL_law_861 ?_
      refine g_iload C 1 dL_law_864 rfl ?_
      refine g_icmp_eq (tgt := 871) C dL_law_866 (by decide) (fun h866 => ?_) (fun h866 => ?_)
      · have hm := ift hm h866
        refine g_iload C 1 dL_law_871 rfl ?_
        refine g_if_ne (tgt := 888) C dL_law_873 (by decide) (fun h873 => ?_) (fun h873 => ?_)
        · have hm := ife hm h873
          exact g_sub [2, 3, 4, 5, 6] rfl (g_pc rfl (J888  r861.2 hm))
        · have hm := ift hm h873
          refine g_aload_n C 5 dL_law_876 rfl rfl ?_
          refine g_iconst (v := 0) C dL_law_877 rfl ?_
          obtain ⟨hi878, hm⟩ := ifn hm
          refine g_lald C (by decide) hi878 dL_law_878 ?_
          refine g_iload C 0 dL_law_879 rfl ?_
          refine g_i2l C dL_law_881 ?_
          refine g_lcmp C dL_law_882 ?_
          refine g_if_eq (tgt := 888) C dL_law_883 (by decide) (fun h883 => ?_) (fun h883 => ?_)
          · have hm := ift hm h883
            exact g_sub [2, 3, 4, 5, 6] rfl (g_pc rfl (J888  r861.2 hm))
          · have hm := ife hm h883
            refine g_iconst (v := 0) C dL_law_886 rfl ?_
            obtain rfl := Option.some.inj hm
            have e23 := K23.2 _ rfl
            subst e23
            obtain rfl := Option.some.inj hk23
            exact absurd (show (0 : Int32) = 1 from h1) (by decide)
      · have hm := ife hm h866
        refine g_iconst (v := 0) C dL_law_869 rfl ?_
        obtain rfl := Option.some.inj hm
        have e23 := K23.2 _ rfl
        subst e23
        obtain rfl := Option.some.inj hk23
        exact absurd (show (0 : Int32) = 1 from h1) (by decide)
    have hm := ife hm h39_13
    by_cases h39_14 : ((xs l4.toNatClampNeg) &&& (31 : Int32)) = (14 : Int32)
    · have hm := ift hm h39_14
      refine g_tabIn (off := 852) (tgt := 891) C dL_law_39 (by rw [h39_14]; decide) (by rw [h39_14]; decide) (by rw [h39_14]; rfl) (by decide) ?_
      refine g_aload_n C 1 dL_law_891 rfl rfl ?_
      refine g_aload_n C 0 dL_law_892 rfl rfl ?_
      refine g_iload C 4 dL_law_893 rfl ?_
      refine g_iconst (v := 1) C dL_law_895 rfl ?_
      refine g_iadd C dL_law_896 ?_
      obtain ⟨hi897, hm⟩ := ifn hm
      refine g_sald C hs hi897 dL_law_897 ?_
      refine g_aload_n C 0 dL_law_898 rfl rfl ?_
      refine g_iload C 4 dL_law_899 rfl ?_
      refine g_iconst (v := 2) C dL_law_901 rfl ?_
      refine g_iadd C dL_law_902 ?_
      obtain ⟨hi903, hm⟩ := ifn hm
      refine g_sald C hs hi903 dL_law_903 ?_
      refine g_aload_n C 0 dL_law_904 rfl rfl ?_
      refine g_iload C 4 dL_law_905 rfl ?_
      refine g_iconst (v := 3) C dL_law_907 rfl ?_
      refine g_iadd C dL_law_908 ?_
      obtain ⟨hi909, hm⟩ := ifn hm
      refine g_sald C hs hi909 dL_law_909 ?_
      refine g_aload_n C 0 dL_law_910 rfl rfl ?_
      refine g_iload C 4 dL_law_911 rfl ?_
      refine g_iconst (v := 4) C dL_law_913 rfl ?_
      refine g_iadd C dL_law_914 ?_
      obtain ⟨hi915, hm⟩ := ifn hm
      refine g_sald C hs hi915 dL_law_915 ?_
      refine g_aload_n C 3 dL_law_916 rfl rfl ?_
      obtain ⟨r917, hr917, hm⟩ := bnd_some hm
      refine g_callSwB (As := [vR 9 0, vI (xs (l4 + (1 : Int32)).toNatClampNeg), vI (xs (l4 + (2 : Int32)).toNatClampNeg), vI (xs (l4 + (3 : Int32)).toNatClampNeg), vI (xs (l4 + (4 : Int32)).toNatClampNeg), vR 23 0]) (rest := []) C lkw_147 (k_L_proof X.2.1 G hl hG fu (xs (l4 + (1 : Int32)).toNatClampNeg) (xs (l4 + (2 : Int32)).toNatClampNeg) (xs (l4 + (3 : Int32)).toNatClampNeg) (xs (l4 + (4 : Int32)).toNatClampNeg) M r917 hk9 hko hr917) rfl rfl (Nat.le_of_ble_eq_true rfl) ⟨Nat.le_trans (Nat.le_of_ble_eq_true rfl) hrf, Nat.le_trans (Nat.le_of_ble_eq_true rfl) hrl⟩ hq1 dL_law_917 ?_
      have C := C1
      have hq := hq1
      refine g_istore (ls' := [(5, vI r917.1), (0, vR 24 0), (1, vR 9 0), (2, vR 10 0), (3, vR 23 0), (4, vI l4)]) C dL_law_920 (by decide) rfl ?_
      refine g_aload_n C 3 dL_law_922 rfl rfl ?_
      refine g_aload_n C 1 dL_law_923 rfl rfl ?_
      refine g_iload C 5 dL_law_924 rfl ?_
      refine g_iconst (v := 1) C dL_law_926 rfl ?_
      refine g_iadd C dL_law_927 ?_
      obtain ⟨hi928, hm⟩ := ifn hm
      refine g_sald C hs hi928 dL_law_928 ?_
      refine g_aload_n C 1 dL_law_929 rfl rfl ?_
      refine g_iload C 5 dL_law_930 rfl ?_
      refine g_iconst (v := 2) C dL_law_932 rfl ?_
      refine g_iadd C dL_law_933 ?_
      obtain ⟨hi934, hm⟩ := ifn hm
      refine g_sald C hs hi934 dL_law_934 ?_
      refine g_aload_n C 1 dL_law_935 rfl rfl ?_
      refine g_iload C 5 dL_law_936 rfl ?_
      refine g_iconst (v := 3) C dL_law_938 rfl ?_
      refine g_iadd C dL_law_939 ?_
      obtain ⟨hi940, hm⟩ := ifn hm
      refine g_sald C hs hi940 dL_law_940 ?_
      refine g_aload_n C 1 dL_law_941 rfl rfl ?_
      refine g_iload C 5 dL_law_942 rfl ?_
      refine g_iconst (v := 4) C dL_law_944 rfl ?_
      refine g_iadd C dL_law_945 ?_
      obtain ⟨hi946, hm⟩ := ifn hm
      refine g_sald C hs hi946 dL_law_946 ?_
      obtain ⟨r947, hr947, hm⟩ := bnd_some hm
      refine g_callVi_k (As := [vI (xs (l4 + (1 : Int32)).toNatClampNeg), vI (xs (l4 + (2 : Int32)).toNatClampNeg), vI (xs (l4 + (3 : Int32)).toNatClampNeg), vI (xs (l4 + (4 : Int32)).toNatClampNeg)]) (rest := []) C lk_L_150 (k_X10_proof X.2.1 G hl hG fu (xs (l4 + (1 : Int32)).toNatClampNeg) (xs (l4 + (2 : Int32)).toNatClampNeg) (xs (l4 + (3 : Int32)).toNatClampNeg) (xs (l4 + (4 : Int32)).toNatClampNeg) r917.2 r947 hkm hr947) (by decide) rfl rfl rfl (Nat.le_of_ble_eq_true rfl) ⟨Nat.le_trans (Nat.le_of_ble_eq_true rfl) hrf, Nat.le_trans (Nat.le_of_ble_eq_true rfl) hrl⟩ hq dL_law_947 ?_
      refine g_istore (ls' := [(6, vI r947.1), (5, vI r917.1), (0, vR 24 0), (1, vR 9 0), (2, vR 10 0), (3, vR 23 0), (4, vI l4)]) C dL_law_950 (by decide) rfl ?_
      refine g_aload_n C 4 dL_law_952 rfl rfl ?_
      obtain ⟨r953, hr953, hm⟩ := bnd_some hm
      refine g_callVi_k (As := []) (rest := []) C lk_L_99 (k_X10_thrown X.2.1 G hl hG fu  r947.2 r953 hkm hr953) (by decide) rfl rfl rfl (Nat.le_of_ble_eq_true rfl) ⟨Nat.le_trans (Nat.le_of_ble_eq_true rfl) hrf, Nat.le_trans (Nat.le_of_ble_eq_true rfl) hrl⟩ hq dL_law_953 ?_
      refine g_iload C 1 dL_law_956 rfl ?_
      refine g_icmp_eq (tgt := 963) C dL_law_958 (by decide) (fun h958 => ?_) (fun h958 => ?_)
      · have hm := ift hm h958
        refine g_iload C 1 dL_law_963 rfl ?_
        refine g_if_ne (tgt := 980) C dL_law_965 (by decide) (fun h965 => ?_) (fun h965 => ?_)
        · have hm := ife hm h965
          exact g_sub [2, 3, 4, 5, 6] rfl (g_pc rfl (J980  r953.2 hm))
        · have hm := ift hm h965
          refine g_aload_n C 5 dL_law_968 rfl rfl ?_
          refine g_iconst (v := 0) C dL_law_969 rfl ?_
          obtain ⟨hi970, hm⟩ := ifn hm
          refine g_lald C (by decide) hi970 dL_law_970 ?_
          refine g_iload C 0 dL_law_971 rfl ?_
          refine g_i2l C dL_law_973 ?_
          refine g_lcmp C dL_law_974 ?_
          refine g_if_eq (tgt := 980) C dL_law_975 (by decide) (fun h975 => ?_) (fun h975 => ?_)
          · have hm := ift hm h975
            exact g_sub [2, 3, 4, 5, 6] rfl (g_pc rfl (J980  r953.2 hm))
          · have hm := ife hm h975
            refine g_iconst (v := 0) C dL_law_978 rfl ?_
            obtain rfl := Option.some.inj hm
            have e23 := K23.2 _ rfl
            subst e23
            obtain rfl := Option.some.inj hk23
            exact absurd (show (0 : Int32) = 1 from h1) (by decide)
      · have hm := ife hm h958
        refine g_iconst (v := 0) C dL_law_961 rfl ?_
        obtain rfl := Option.some.inj hm
        have e23 := K23.2 _ rfl
        subst e23
        obtain rfl := Option.some.inj hk23
        exact absurd (show (0 : Int32) = 1 from h1) (by decide)
    have hm := ife hm h39_14
    by_cases h39_15 : ((xs l4.toNatClampNeg) &&& (31 : Int32)) = (15 : Int32)
    · have hm := ift hm h39_15
      refine g_tabIn (off := 944) (tgt := 983) C dL_law_39 (by rw [h39_15]; decide) (by rw [h39_15]; decide) (by rw [h39_15]; rfl) (by decide) ?_
      refine g_aload_n C 1 dL_law_983 rfl rfl ?_
      refine g_aload_n C 0 dL_law_984 rfl rfl ?_
      refine g_iload C 4 dL_law_985 rfl ?_
      refine g_iconst (v := 1) C dL_law_987 rfl ?_
      refine g_iadd C dL_law_988 ?_
      obtain ⟨hi989, hm⟩ := ifn hm
      refine g_sald C hs hi989 dL_law_989 ?_
      refine g_aload_n C 0 dL_law_990 rfl rfl ?_
      refine g_iload C 4 dL_law_991 rfl ?_
      refine g_iconst (v := 2) C dL_law_993 rfl ?_
      refine g_iadd C dL_law_994 ?_
      obtain ⟨hi995, hm⟩ := ifn hm
      refine g_sald C hs hi995 dL_law_995 ?_
      refine g_aload_n C 3 dL_law_996 rfl rfl ?_
      obtain ⟨r997, hr997, hm⟩ := bnd_some hm
      refine g_callSwB (As := [vR 9 0, vI (xs (l4 + (1 : Int32)).toNatClampNeg), vI (xs (l4 + (2 : Int32)).toNatClampNeg), vR 23 0]) (rest := []) C lkw_151 (k_L_cell X.2.1 G hl hG fu (xs (l4 + (1 : Int32)).toNatClampNeg) (xs (l4 + (2 : Int32)).toNatClampNeg) M r997 hk9 hko hr997) rfl rfl (Nat.le_of_ble_eq_true rfl) ⟨Nat.le_trans (Nat.le_of_ble_eq_true rfl) hrf, Nat.le_trans (Nat.le_of_ble_eq_true rfl) hrl⟩ hq1 dL_law_997 ?_
      have C := C1
      have hq := hq1
      refine g_istore (ls' := [(5, vI r997.1), (0, vR 24 0), (1, vR 9 0), (2, vR 10 0), (3, vR 23 0), (4, vI l4)]) C dL_law_1000 (by decide) rfl ?_
      refine g_aload_n C 3 dL_law_1002 rfl rfl ?_
      refine g_aload_n C 1 dL_law_1003 rfl rfl ?_
      refine g_iload C 5 dL_law_1004 rfl ?_
      refine g_iconst (v := 1) C dL_law_1006 rfl ?_
      refine g_iadd C dL_law_1007 ?_
      obtain ⟨hi1008, hm⟩ := ifn hm
      refine g_sald C hs hi1008 dL_law_1008 ?_
      refine g_aload_n C 1 dL_law_1009 rfl rfl ?_
      refine g_iload C 5 dL_law_1010 rfl ?_
      refine g_iconst (v := 2) C dL_law_1012 rfl ?_
      refine g_iadd C dL_law_1013 ?_
      obtain ⟨hi1014, hm⟩ := ifn hm
      refine g_sald C hs hi1014 dL_law_1014 ?_
      obtain ⟨r1015, hr1015, hm⟩ := bnd_some hm
      refine g_callVi_k (As := [vI (xs (l4 + (1 : Int32)).toNatClampNeg), vI (xs (l4 + (2 : Int32)).toNatClampNeg)]) (rest := []) C lk_L_153 (k_X10_cell X.2.1 G hl hG fu (xs (l4 + (1 : Int32)).toNatClampNeg) (xs (l4 + (2 : Int32)).toNatClampNeg) r997.2 r1015 hkm hr1015) (by decide) rfl rfl rfl (Nat.le_of_ble_eq_true rfl) ⟨Nat.le_trans (Nat.le_of_ble_eq_true rfl) hrf, Nat.le_trans (Nat.le_of_ble_eq_true rfl) hrl⟩ hq dL_law_1015 ?_
      refine g_istore (ls' := [(6, vI r1015.1), (5, vI r997.1), (0, vR 24 0), (1, vR 9 0), (2, vR 10 0), (3, vR 23 0), (4, vI l4)]) C dL_law_1018 (by decide) rfl ?_
      refine g_aload_n C 4 dL_law_1020 rfl rfl ?_
      obtain ⟨r1021, hr1021, hm⟩ := bnd_some hm
      refine g_callVi_k (As := []) (rest := []) C lk_L_99 (k_X10_thrown X.2.1 G hl hG fu  r1015.2 r1021 hkm hr1021) (by decide) rfl rfl rfl (Nat.le_of_ble_eq_true rfl) ⟨Nat.le_trans (Nat.le_of_ble_eq_true rfl) hrf, Nat.le_trans (Nat.le_of_ble_eq_true rfl) hrl⟩ hq dL_law_1021 ?_
      refine g_iload C 1 dL_law_1024 rfl ?_
      refine g_icmp_eq (tgt := 1031) C dL_law_1026 (by decide) (fun h1026 => ?_) (fun h1026 => ?_)
      · have hm := ift hm h1026
        refine g_iload C 1 dL_law_1031 rfl ?_
        refine g_if_ne (tgt := 1048) C dL_law_1033 (by decide) (fun h1033 => ?_) (fun h1033 => ?_)
        · have hm := ife hm h1033
          exact g_sub [2, 3, 4, 5, 6] rfl (g_pc rfl (J1048  r1021.2 hm))
        · have hm := ift hm h1033
          refine g_aload_n C 5 dL_law_1036 rfl rfl ?_
          refine g_iconst (v := 0) C dL_law_1037 rfl ?_
          obtain ⟨hi1038, hm⟩ := ifn hm
          refine g_lald C (by decide) hi1038 dL_law_1038 ?_
          refine g_iload C 0 dL_law_1039 rfl ?_
          refine g_i2l C dL_law_1041 ?_
          refine g_lcmp C dL_law_1042 ?_
          refine g_if_eq (tgt := 1048) C dL_law_1043 (by decide) (fun h1043 => ?_) (fun h1043 => ?_)
          · have hm := ift hm h1043
            exact g_sub [2, 3, 4, 5, 6] rfl (g_pc rfl (J1048  r1021.2 hm))
          · have hm := ife hm h1043
            refine g_iconst (v := 0) C dL_law_1046 rfl ?_
            obtain rfl := Option.some.inj hm
            have e23 := K23.2 _ rfl
            subst e23
            obtain rfl := Option.some.inj hk23
            exact absurd (show (0 : Int32) = 1 from h1) (by decide)
      · have hm := ife hm h1026
        refine g_iconst (v := 0) C dL_law_1029 rfl ?_
        obtain rfl := Option.some.inj hm
        have e23 := K23.2 _ rfl
        subst e23
        obtain rfl := Option.some.inj hk23
        exact absurd (show (0 : Int32) = 1 from h1) (by decide)
    have hm := ife hm h39_15
    by_cases h39_16 : ((xs l4.toNatClampNeg) &&& (31 : Int32)) = (16 : Int32)
    · have hm := ift hm h39_16
      refine g_tabIn (off := 1012) (tgt := 1051) C dL_law_39 (by rw [h39_16]; decide) (by rw [h39_16]; decide) (by rw [h39_16]; rfl) (by decide) ?_
      refine g_aload_n C 1 dL_law_1051 rfl rfl ?_
      refine g_aload_n C 0 dL_law_1052 rfl rfl ?_
      refine g_iload C 4 dL_law_1053 rfl ?_
      refine g_iconst (v := 1) C dL_law_1055 rfl ?_
      refine g_iadd C dL_law_1056 ?_
      obtain ⟨hi1057, hm⟩ := ifn hm
      refine g_sald C hs hi1057 dL_law_1057 ?_
      refine g_aload_n C 3 dL_law_1058 rfl rfl ?_
      obtain ⟨r1059, hr1059, hm⟩ := bnd_some hm
      refine g_callSwB (As := [vR 9 0, vI (xs (l4 + (1 : Int32)).toNatClampNeg), vR 23 0]) (rest := []) C lkw_154 (k_L_count X.2.1 G hl hG fu (xs (l4 + (1 : Int32)).toNatClampNeg) M r1059 hk9 hko hr1059) rfl rfl (Nat.le_of_ble_eq_true rfl) ⟨Nat.le_trans (Nat.le_of_ble_eq_true rfl) hrf, Nat.le_trans (Nat.le_of_ble_eq_true rfl) hrl⟩ hq1 dL_law_1059 ?_
      have C := C1
      have hq := hq1
      refine g_istore (ls' := [(5, vI r1059.1), (0, vR 24 0), (1, vR 9 0), (2, vR 10 0), (3, vR 23 0), (4, vI l4)]) C dL_law_1062 (by decide) rfl ?_
      refine g_aload_n C 3 dL_law_1064 rfl rfl ?_
      refine g_aload_n C 1 dL_law_1065 rfl rfl ?_
      refine g_iload C 5 dL_law_1066 rfl ?_
      refine g_iconst (v := 1) C dL_law_1068 rfl ?_
      refine g_iadd C dL_law_1069 ?_
      obtain ⟨hi1070, hm⟩ := ifn hm
      refine g_sald C hs hi1070 dL_law_1070 ?_
      obtain ⟨r1071, hr1071, hm⟩ := bnd_some hm
      refine g_callVi_k (As := [vI (xs (l4 + (1 : Int32)).toNatClampNeg)]) (rest := []) C lk_L_156 (k_X10_count X.2.1 G hl hG fu (xs (l4 + (1 : Int32)).toNatClampNeg) r1059.2 r1071 hkm hr1071) (by decide) rfl rfl rfl (Nat.le_of_ble_eq_true rfl) ⟨Nat.le_trans (Nat.le_of_ble_eq_true rfl) hrf, Nat.le_trans (Nat.le_of_ble_eq_true rfl) hrl⟩ hq dL_law_1071 ?_
      refine g_istore (ls' := [(6, vI r1071.1), (5, vI r1059.1), (0, vR 24 0), (1, vR 9 0), (2, vR 10 0), (3, vR 23 0), (4, vI l4)]) C dL_law_1074 (by decide) rfl ?_
      refine g_aload_n C 4 dL_law_1076 rfl rfl ?_
      obtain ⟨r1077, hr1077, hm⟩ := bnd_some hm
      refine g_callVi_k (As := []) (rest := []) C lk_L_99 (k_X10_thrown X.2.1 G hl hG fu  r1071.2 r1077 hkm hr1077) (by decide) rfl rfl rfl (Nat.le_of_ble_eq_true rfl) ⟨Nat.le_trans (Nat.le_of_ble_eq_true rfl) hrf, Nat.le_trans (Nat.le_of_ble_eq_true rfl) hrl⟩ hq dL_law_1077 ?_
      refine g_iload C 1 dL_law_1080 rfl ?_
      refine g_icmp_eq (tgt := 1087) C dL_law_1082 (by decide) (fun h1082 => ?_) (fun h1082 => ?_)
      · have hm := ift hm h1082
        refine g_iload C 1 dL_law_1087 rfl ?_
        refine g_if_ne (tgt := 1104) C dL_law_1089 (by decide) (fun h1089 => ?_) (fun h1089 => ?_)
        · have hm := ife hm h1089
          exact g_sub [2, 3, 4, 5, 6] rfl (g_pc rfl (J1104  r1077.2 hm))
        · have hm := ift hm h1089
          refine g_aload_n C 5 dL_law_1092 rfl rfl ?_
          refine g_iconst (v := 0) C dL_law_1093 rfl ?_
          obtain ⟨hi1094, hm⟩ := ifn hm
          refine g_lald C (by decide) hi1094 dL_law_1094 ?_
          refine g_iload C 0 dL_law_1095 rfl ?_
          refine g_i2l C dL_law_1097 ?_
          refine g_lcmp C dL_law_1098 ?_
          refine g_if_eq (tgt := 1104) C dL_law_1099 (by decide) (fun h1099 => ?_) (fun h1099 => ?_)
          · have hm := ift hm h1099
            exact g_sub [2, 3, 4, 5, 6] rfl (g_pc rfl (J1104  r1077.2 hm))
          · have hm := ife hm h1099
            refine g_iconst (v := 0) C dL_law_1102 rfl ?_
            obtain rfl := Option.some.inj hm
            have e23 := K23.2 _ rfl
            subst e23
            obtain rfl := Option.some.inj hk23
            exact absurd (show (0 : Int32) = 1 from h1) (by decide)
      · have hm := ife hm h1082
        refine g_iconst (v := 0) C dL_law_1085 rfl ?_
        obtain rfl := Option.some.inj hm
        have e23 := K23.2 _ rfl
        subst e23
        obtain rfl := Option.some.inj hk23
        exact absurd (show (0 : Int32) = 1 from h1) (by decide)
    have hm := ife hm h39_16
    by_cases h39_17 : ((xs l4.toNatClampNeg) &&& (31 : Int32)) = (17 : Int32)
    · have hm := ift hm h39_17
      refine g_tabIn (off := 1068) (tgt := 1107) C dL_law_39 (by rw [h39_17]; decide) (by rw [h39_17]; decide) (by rw [h39_17]; rfl) (by decide) ?_
      refine g_aload_n C 1 dL_law_1107 rfl rfl ?_
      obtain ⟨r1108, hr1108, hm⟩ := bnd_some hm
      refine g_callVd_k (As := []) (rest := []) C lk_L_157 (k_X9_commuting X.2.1 G hl hG fu  M r1108 hk9 hr1108) (by decide) rfl rfl rfl (Nat.le_of_ble_eq_true rfl) ⟨Nat.le_trans (Nat.le_of_ble_eq_true rfl) hrf, Nat.le_trans (Nat.le_of_ble_eq_true rfl) hrl⟩ hq dL_law_1108 ?_
      refine g_dstore (ls' := [(5, vD r1108.1), (0, vR 24 0), (1, vR 9 0), (2, vR 10 0), (3, vR 23 0), (4, vI l4)]) C dL_law_1111 (by decide) rfl ?_
      refine g_aload_n C 3 dL_law_1113 rfl rfl ?_
      obtain ⟨r1114, hr1114, hm⟩ := bnd_some hm
      refine g_callVd_k (As := []) (rest := []) C lk_L_161 (k_X10_commuting X.2.1 G hl hG fu  r1108.2 r1114 hkm hr1114) (by decide) rfl rfl rfl (Nat.le_of_ble_eq_true rfl) ⟨Nat.le_trans (Nat.le_of_ble_eq_true rfl) hrf, Nat.le_trans (Nat.le_of_ble_eq_true rfl) hrl⟩ hq dL_law_1114 ?_
      refine g_dstore (ls' := [(7, vD r1114.1), (5, vD r1108.1), (0, vR 24 0), (1, vR 9 0), (2, vR 10 0), (3, vR 23 0), (4, vI l4)]) C dL_law_1117 (by decide) rfl ?_
      refine g_dload C 1 dL_law_1119 rfl ?_
      refine g_dload C 0 dL_law_1121 rfl ?_
      refine g_dcmp C dL_law_1123 ?_
      refine g_if_eq (tgt := 1145) C dL_law_1124 (by decide) (fun h1124 => ?_) (fun h1124 => ?_)
      · have hm := ift hm h1124
        exact g_sub [2, 3, 4, 5, 6] rfl (g_pc rfl (J1145  r1114.2 hm))
      · have hm := ife hm h1124
        refine g_dload C 1 dL_law_1127 rfl ?_
        refine g_dload C 1 dL_law_1129 rfl ?_
        refine g_dcmp C dL_law_1131 ?_
        refine g_if_eq (tgt := 1143) C dL_law_1132 (by decide) (fun h1132 => ?_) (fun h1132 => ?_)
        · have hm := ift hm h1132
          refine g_iconst (v := 0) C dL_law_1143 rfl ?_
          obtain rfl := Option.some.inj hm
          have e23 := K23.2 _ rfl
          subst e23
          obtain rfl := Option.some.inj hk23
          exact absurd (show (0 : Int32) = 1 from h1) (by decide)
        · have hm := ife hm h1132
          refine g_dload C 0 dL_law_1135 rfl ?_
          refine g_dload C 0 dL_law_1137 rfl ?_
          refine g_dcmp C dL_law_1139 ?_
          refine g_if_ne (tgt := 1145) C dL_law_1140 (by decide) (fun h1140 => ?_) (fun h1140 => ?_)
          · have hm := ife hm h1140
            exact g_sub [2, 3, 4, 5, 6] rfl (g_pc rfl (J1145  r1114.2 hm))
          · have hm := ift hm h1140
            refine g_iconst (v := 0) C dL_law_1143 rfl ?_
            obtain rfl := Option.some.inj hm
            have e23 := K23.2 _ rfl
            subst e23
            obtain rfl := Option.some.inj hk23
            exact absurd (show (0 : Int32) = 1 from h1) (by decide)
    have hm := ife hm h39_17
    by_cases h39_18 : ((xs l4.toNatClampNeg) &&& (31 : Int32)) = (18 : Int32)
    · have hm := ift hm h39_18
      refine g_tabIn (off := 1109) (tgt := 1148) C dL_law_39 (by rw [h39_18]; decide) (by rw [h39_18]; decide) (by rw [h39_18]; rfl) (by decide) ?_
      refine g_aload_n C 1 dL_law_1148 rfl rfl ?_
      refine g_aload_n C 0 dL_law_1149 rfl rfl ?_
      refine g_iload C 4 dL_law_1150 rfl ?_
      refine g_iconst (v := 1) C dL_law_1152 rfl ?_
      refine g_iadd C dL_law_1153 ?_
      obtain ⟨hi1154, hm⟩ := ifn hm
      refine g_sald C hs hi1154 dL_law_1154 ?_
      refine g_aload_n C 0 dL_law_1155 rfl rfl ?_
      refine g_iload C 4 dL_law_1156 rfl ?_
      refine g_iconst (v := 2) C dL_law_1158 rfl ?_
      refine g_iadd C dL_law_1159 ?_
      obtain ⟨hi1160, hm⟩ := ifn hm
      refine g_sald C hs hi1160 dL_law_1160 ?_
      refine g_aload_n C 3 dL_law_1161 rfl rfl ?_
      obtain ⟨r1162, hr1162, hm⟩ := bnd_some hm
      refine g_callSwB (As := [vR 9 0, vI (xs (l4 + (1 : Int32)).toNatClampNeg), vI (xs (l4 + (2 : Int32)).toNatClampNeg), vR 23 0]) (rest := []) C lkw_162 (k_L_setSize X.2.1 G hl hG fu (xs (l4 + (1 : Int32)).toNatClampNeg) (xs (l4 + (2 : Int32)).toNatClampNeg) M r1162 hk9 hko hr1162) rfl rfl (Nat.le_of_ble_eq_true rfl) ⟨Nat.le_trans (Nat.le_of_ble_eq_true rfl) hrf, Nat.le_trans (Nat.le_of_ble_eq_true rfl) hrl⟩ hq1 dL_law_1162 ?_
      have C := C1
      have hq := hq1
      refine g_istore (ls' := [(5, vI r1162.1), (0, vR 24 0), (1, vR 9 0), (2, vR 10 0), (3, vR 23 0), (4, vI l4)]) C dL_law_1165 (by decide) rfl ?_
      refine g_aload_n C 3 dL_law_1167 rfl rfl ?_
      refine g_aload_n C 1 dL_law_1168 rfl rfl ?_
      refine g_iload C 5 dL_law_1169 rfl ?_
      refine g_iconst (v := 1) C dL_law_1171 rfl ?_
      refine g_iadd C dL_law_1172 ?_
      obtain ⟨hi1173, hm⟩ := ifn hm
      refine g_sald C hs hi1173 dL_law_1173 ?_
      refine g_aload_n C 1 dL_law_1174 rfl rfl ?_
      refine g_iload C 5 dL_law_1175 rfl ?_
      refine g_iconst (v := 2) C dL_law_1177 rfl ?_
      refine g_iadd C dL_law_1178 ?_
      obtain ⟨hi1179, hm⟩ := ifn hm
      refine g_sald C hs hi1179 dL_law_1179 ?_
      obtain ⟨r1180, hr1180, hm⟩ := bnd_some hm
      refine g_callVi_k (As := [vI (xs (l4 + (1 : Int32)).toNatClampNeg), vI (xs (l4 + (2 : Int32)).toNatClampNeg)]) (rest := []) C lk_L_164 (k_X10_setSize X.2.1 G hl hG fu (xs (l4 + (1 : Int32)).toNatClampNeg) (xs (l4 + (2 : Int32)).toNatClampNeg) r1162.2 r1180 hkm hr1180) (by decide) rfl rfl rfl (Nat.le_of_ble_eq_true rfl) ⟨Nat.le_trans (Nat.le_of_ble_eq_true rfl) hrf, Nat.le_trans (Nat.le_of_ble_eq_true rfl) hrl⟩ hq dL_law_1180 ?_
      refine g_istore (ls' := [(6, vI r1180.1), (5, vI r1162.1), (0, vR 24 0), (1, vR 9 0), (2, vR 10 0), (3, vR 23 0), (4, vI l4)]) C dL_law_1183 (by decide) rfl ?_
      refine g_aload_n C 4 dL_law_1185 rfl rfl ?_
      obtain ⟨r1186, hr1186, hm⟩ := bnd_some hm
      refine g_callVi_k (As := []) (rest := []) C lk_L_99 (k_X10_thrown X.2.1 G hl hG fu  r1180.2 r1186 hkm hr1186) (by decide) rfl rfl rfl (Nat.le_of_ble_eq_true rfl) ⟨Nat.le_trans (Nat.le_of_ble_eq_true rfl) hrf, Nat.le_trans (Nat.le_of_ble_eq_true rfl) hrl⟩ hq dL_law_1186 ?_
      refine g_iload C 1 dL_law_1189 rfl ?_
      refine g_icmp_eq (tgt := 1196) C dL_law_1191 (by decide) (fun h1191 => ?_) (fun h1191 => ?_)
      · have hm := ift hm h1191
        refine g_iload C 1 dL_law_1196 rfl ?_
        refine g_if_ne (tgt := 1213) C dL_law_1198 (by decide) (fun h1198 => ?_) (fun h1198 => ?_)
        · have hm := ife hm h1198
          exact g_sub [2, 3, 4, 5, 6] rfl (g_pc rfl (J1213  r1186.2 hm))
        · have hm := ift hm h1198
          refine g_aload_n C 5 dL_law_1201 rfl rfl ?_
          refine g_iconst (v := 0) C dL_law_1202 rfl ?_
          obtain ⟨hi1203, hm⟩ := ifn hm
          refine g_lald C (by decide) hi1203 dL_law_1203 ?_
          refine g_iload C 0 dL_law_1204 rfl ?_
          refine g_i2l C dL_law_1206 ?_
          refine g_lcmp C dL_law_1207 ?_
          refine g_if_eq (tgt := 1213) C dL_law_1208 (by decide) (fun h1208 => ?_) (fun h1208 => ?_)
          · have hm := ift hm h1208
            exact g_sub [2, 3, 4, 5, 6] rfl (g_pc rfl (J1213  r1186.2 hm))
          · have hm := ife hm h1208
            refine g_iconst (v := 0) C dL_law_1211 rfl ?_
            obtain rfl := Option.some.inj hm
            have e23 := K23.2 _ rfl
            subst e23
            obtain rfl := Option.some.inj hk23
            exact absurd (show (0 : Int32) = 1 from h1) (by decide)
      · have hm := ife hm h1191
        refine g_iconst (v := 0) C dL_law_1194 rfl ?_
        obtain rfl := Option.some.inj hm
        have e23 := K23.2 _ rfl
        subst e23
        obtain rfl := Option.some.inj hk23
        exact absurd (show (0 : Int32) = 1 from h1) (by decide)
    have hm := ife hm h39_18
    by_cases h39_19 : ((xs l4.toNatClampNeg) &&& (31 : Int32)) = (19 : Int32)
    · have hm := ift hm h39_19
      refine g_tabIn (off := 1177) (tgt := 1216) C dL_law_39 (by rw [h39_19]; decide) (by rw [h39_19]; decide) (by rw [h39_19]; rfl) (by decide) ?_
      refine g_aload_n C 1 dL_law_1216 rfl rfl ?_
      refine g_aload_n C 0 dL_law_1217 rfl rfl ?_
      refine g_iload C 4 dL_law_1218 rfl ?_
      refine g_iconst (v := 1) C dL_law_1220 rfl ?_
      refine g_iadd C dL_law_1221 ?_
      obtain ⟨hi1222, hm⟩ := ifn hm
      refine g_sald C hs hi1222 dL_law_1222 ?_
      refine g_aload_n C 0 dL_law_1223 rfl rfl ?_
      refine g_iload C 4 dL_law_1224 rfl ?_
      refine g_iconst (v := 2) C dL_law_1226 rfl ?_
      refine g_iadd C dL_law_1227 ?_
      obtain ⟨hi1228, hm⟩ := ifn hm
      refine g_sald C hs hi1228 dL_law_1228 ?_
      refine g_aload_n C 3 dL_law_1229 rfl rfl ?_
      obtain ⟨r1230, hr1230, hm⟩ := bnd_some hm
      refine g_callSwB (As := [vR 9 0, vI (xs (l4 + (1 : Int32)).toNatClampNeg), vI (xs (l4 + (2 : Int32)).toNatClampNeg), vR 23 0]) (rest := []) C lkw_165 (k_L_setFunction X.2.1 G hl hG fu (xs (l4 + (1 : Int32)).toNatClampNeg) (xs (l4 + (2 : Int32)).toNatClampNeg) M r1230 hk9 hko hr1230) rfl rfl (Nat.le_of_ble_eq_true rfl) ⟨Nat.le_trans (Nat.le_of_ble_eq_true rfl) hrf, Nat.le_trans (Nat.le_of_ble_eq_true rfl) hrl⟩ hq1 dL_law_1230 ?_
      have C := C1
      have hq := hq1
      refine g_istore (ls' := [(5, vI r1230.1), (0, vR 24 0), (1, vR 9 0), (2, vR 10 0), (3, vR 23 0), (4, vI l4)]) C dL_law_1233 (by decide) rfl ?_
      refine g_aload_n C 3 dL_law_1235 rfl rfl ?_
      refine g_aload_n C 1 dL_law_1236 rfl rfl ?_
      refine g_iload C 5 dL_law_1237 rfl ?_
      refine g_iconst (v := 1) C dL_law_1239 rfl ?_
      refine g_iadd C dL_law_1240 ?_
      obtain ⟨hi1241, hm⟩ := ifn hm
      refine g_sald C hs hi1241 dL_law_1241 ?_
      refine g_aload_n C 1 dL_law_1242 rfl rfl ?_
      refine g_iload C 5 dL_law_1243 rfl ?_
      refine g_iconst (v := 2) C dL_law_1245 rfl ?_
      refine g_iadd C dL_law_1246 ?_
      obtain ⟨hi1247, hm⟩ := ifn hm
      refine g_sald C hs hi1247 dL_law_1247 ?_
      obtain ⟨r1248, hr1248, hm⟩ := bnd_some hm
      refine g_callVi_k (As := [vI (xs (l4 + (1 : Int32)).toNatClampNeg), vI (xs (l4 + (2 : Int32)).toNatClampNeg)]) (rest := []) C lk_L_167 (k_X10_setFunction X.2.1 G hl hG fu (xs (l4 + (1 : Int32)).toNatClampNeg) (xs (l4 + (2 : Int32)).toNatClampNeg) r1230.2 r1248 hkm hr1248) (by decide) rfl rfl rfl (Nat.le_of_ble_eq_true rfl) ⟨Nat.le_trans (Nat.le_of_ble_eq_true rfl) hrf, Nat.le_trans (Nat.le_of_ble_eq_true rfl) hrl⟩ hq dL_law_1248 ?_
      refine g_istore (ls' := [(6, vI r1248.1), (5, vI r1230.1), (0, vR 24 0), (1, vR 9 0), (2, vR 10 0), (3, vR 23 0), (4, vI l4)]) C dL_law_1251 (by decide) rfl ?_
      refine g_aload_n C 4 dL_law_1253 rfl rfl ?_
      obtain ⟨r1254, hr1254, hm⟩ := bnd_some hm
      refine g_callVi_k (As := []) (rest := []) C lk_L_99 (k_X10_thrown X.2.1 G hl hG fu  r1248.2 r1254 hkm hr1254) (by decide) rfl rfl rfl (Nat.le_of_ble_eq_true rfl) ⟨Nat.le_trans (Nat.le_of_ble_eq_true rfl) hrf, Nat.le_trans (Nat.le_of_ble_eq_true rfl) hrl⟩ hq dL_law_1254 ?_
      refine g_iload C 1 dL_law_1257 rfl ?_
      refine g_icmp_eq (tgt := 1264) C dL_law_1259 (by decide) (fun h1259 => ?_) (fun h1259 => ?_)
      · have hm := ift hm h1259
        refine g_iload C 1 dL_law_1264 rfl ?_
        refine g_if_ne (tgt := 1281) C dL_law_1266 (by decide) (fun h1266 => ?_) (fun h1266 => ?_)
        · have hm := ife hm h1266
          exact g_sub [2, 3, 4, 5, 6] rfl (g_pc rfl (J1281  r1254.2 hm))
        · have hm := ift hm h1266
          refine g_aload_n C 5 dL_law_1269 rfl rfl ?_
          refine g_iconst (v := 0) C dL_law_1270 rfl ?_
          obtain ⟨hi1271, hm⟩ := ifn hm
          refine g_lald C (by decide) hi1271 dL_law_1271 ?_
          refine g_iload C 0 dL_law_1272 rfl ?_
          refine g_i2l C dL_law_1274 ?_
          refine g_lcmp C dL_law_1275 ?_
          refine g_if_eq (tgt := 1281) C dL_law_1276 (by decide) (fun h1276 => ?_) (fun h1276 => ?_)
          · have hm := ift hm h1276
            exact g_sub [2, 3, 4, 5, 6] rfl (g_pc rfl (J1281  r1254.2 hm))
          · have hm := ife hm h1276
            refine g_iconst (v := 0) C dL_law_1279 rfl ?_
            obtain rfl := Option.some.inj hm
            have e23 := K23.2 _ rfl
            subst e23
            obtain rfl := Option.some.inj hk23
            exact absurd (show (0 : Int32) = 1 from h1) (by decide)
      · have hm := ife hm h1259
        refine g_iconst (v := 0) C dL_law_1262 rfl ?_
        obtain rfl := Option.some.inj hm
        have e23 := K23.2 _ rfl
        subst e23
        obtain rfl := Option.some.inj hk23
        exact absurd (show (0 : Int32) = 1 from h1) (by decide)
    have hm := ife hm h39_19
    by_cases h39_20 : ((xs l4.toNatClampNeg) &&& (31 : Int32)) = (20 : Int32)
    · have hm := ift hm h39_20
      refine g_tabIn (off := 1245) (tgt := 1284) C dL_law_39 (by rw [h39_20]; decide) (by rw [h39_20]; decide) (by rw [h39_20]; rfl) (by decide) ?_
      refine g_aload_n C 1 dL_law_1284 rfl rfl ?_
      refine g_aload_n C 0 dL_law_1285 rfl rfl ?_
      refine g_iload C 4 dL_law_1286 rfl ?_
      refine g_iconst (v := 1) C dL_law_1288 rfl ?_
      refine g_iadd C dL_law_1289 ?_
      obtain ⟨hi1290, hm⟩ := ifn hm
      refine g_sald C hs hi1290 dL_law_1290 ?_
      refine g_aload_n C 0 dL_law_1291 rfl rfl ?_
      refine g_iload C 4 dL_law_1292 rfl ?_
      refine g_iconst (v := 2) C dL_law_1294 rfl ?_
      refine g_iadd C dL_law_1295 ?_
      obtain ⟨hi1296, hm⟩ := ifn hm
      refine g_sald C hs hi1296 dL_law_1296 ?_
      refine g_aload_n C 3 dL_law_1297 rfl rfl ?_
      obtain ⟨r1298, hr1298, hm⟩ := bnd_some hm
      refine g_callSwB (As := [vR 9 0, vI (xs (l4 + (1 : Int32)).toNatClampNeg), vI (xs (l4 + (2 : Int32)).toNatClampNeg), vR 23 0]) (rest := []) C lkw_168 (k_L_apply X.2.1 G hl hG fu (xs (l4 + (1 : Int32)).toNatClampNeg) (xs (l4 + (2 : Int32)).toNatClampNeg) M r1298 hk9 hko hr1298) rfl rfl (Nat.le_of_ble_eq_true rfl) ⟨Nat.le_trans (Nat.le_of_ble_eq_true rfl) hrf, Nat.le_trans (Nat.le_of_ble_eq_true rfl) hrl⟩ hq1 dL_law_1298 ?_
      have C := C1
      have hq := hq1
      refine g_istore (ls' := [(5, vI r1298.1), (0, vR 24 0), (1, vR 9 0), (2, vR 10 0), (3, vR 23 0), (4, vI l4)]) C dL_law_1301 (by decide) rfl ?_
      refine g_aload_n C 3 dL_law_1303 rfl rfl ?_
      refine g_aload_n C 1 dL_law_1304 rfl rfl ?_
      refine g_iload C 5 dL_law_1305 rfl ?_
      refine g_iconst (v := 1) C dL_law_1307 rfl ?_
      refine g_iadd C dL_law_1308 ?_
      obtain ⟨hi1309, hm⟩ := ifn hm
      refine g_sald C hs hi1309 dL_law_1309 ?_
      refine g_aload_n C 1 dL_law_1310 rfl rfl ?_
      refine g_iload C 5 dL_law_1311 rfl ?_
      refine g_iconst (v := 2) C dL_law_1313 rfl ?_
      refine g_iadd C dL_law_1314 ?_
      obtain ⟨hi1315, hm⟩ := ifn hm
      refine g_sald C hs hi1315 dL_law_1315 ?_
      obtain ⟨r1316, hr1316, hm⟩ := bnd_some hm
      refine g_callVi_k (As := [vI (xs (l4 + (1 : Int32)).toNatClampNeg), vI (xs (l4 + (2 : Int32)).toNatClampNeg)]) (rest := []) C lk_L_170 (k_X10_apply X.2.1 G hl hG fu (xs (l4 + (1 : Int32)).toNatClampNeg) (xs (l4 + (2 : Int32)).toNatClampNeg) r1298.2 r1316 hkm hr1316) (by decide) rfl rfl rfl (Nat.le_of_ble_eq_true rfl) ⟨Nat.le_trans (Nat.le_of_ble_eq_true rfl) hrf, Nat.le_trans (Nat.le_of_ble_eq_true rfl) hrl⟩ hq dL_law_1316 ?_
      refine g_istore (ls' := [(6, vI r1316.1), (5, vI r1298.1), (0, vR 24 0), (1, vR 9 0), (2, vR 10 0), (3, vR 23 0), (4, vI l4)]) C dL_law_1319 (by decide) rfl ?_
      refine g_aload_n C 4 dL_law_1321 rfl rfl ?_
      obtain ⟨r1322, hr1322, hm⟩ := bnd_some hm
      refine g_callVi_k (As := []) (rest := []) C lk_L_99 (k_X10_thrown X.2.1 G hl hG fu  r1316.2 r1322 hkm hr1322) (by decide) rfl rfl rfl (Nat.le_of_ble_eq_true rfl) ⟨Nat.le_trans (Nat.le_of_ble_eq_true rfl) hrf, Nat.le_trans (Nat.le_of_ble_eq_true rfl) hrl⟩ hq dL_law_1322 ?_
      refine g_iload C 1 dL_law_1325 rfl ?_
      refine g_icmp_eq (tgt := 1332) C dL_law_1327 (by decide) (fun h1327 => ?_) (fun h1327 => ?_)
      · have hm := ift hm h1327
        refine g_iload C 1 dL_law_1332 rfl ?_
        refine g_if_ne (tgt := 1349) C dL_law_1334 (by decide) (fun h1334 => ?_) (fun h1334 => ?_)
        · have hm := ife hm h1334
          exact g_sub [2, 3, 4, 5, 6] rfl (g_pc rfl (J1349  r1322.2 hm))
        · have hm := ift hm h1334
          refine g_aload_n C 5 dL_law_1337 rfl rfl ?_
          refine g_iconst (v := 0) C dL_law_1338 rfl ?_
          obtain ⟨hi1339, hm⟩ := ifn hm
          refine g_lald C (by decide) hi1339 dL_law_1339 ?_
          refine g_iload C 0 dL_law_1340 rfl ?_
          refine g_i2l C dL_law_1342 ?_
          refine g_lcmp C dL_law_1343 ?_
          refine g_if_eq (tgt := 1349) C dL_law_1344 (by decide) (fun h1344 => ?_) (fun h1344 => ?_)
          · have hm := ift hm h1344
            exact g_sub [2, 3, 4, 5, 6] rfl (g_pc rfl (J1349  r1322.2 hm))
          · have hm := ife hm h1344
            refine g_iconst (v := 0) C dL_law_1347 rfl ?_
            obtain rfl := Option.some.inj hm
            have e23 := K23.2 _ rfl
            subst e23
            obtain rfl := Option.some.inj hk23
            exact absurd (show (0 : Int32) = 1 from h1) (by decide)
      · have hm := ife hm h1327
        refine g_iconst (v := 0) C dL_law_1330 rfl ?_
        obtain rfl := Option.some.inj hm
        have e23 := K23.2 _ rfl
        subst e23
        obtain rfl := Option.some.inj hk23
        exact absurd (show (0 : Int32) = 1 from h1) (by decide)
    have hm := ife hm h39_20
    by_cases h39_21 : ((xs l4.toNatClampNeg) &&& (31 : Int32)) = (21 : Int32)
    · have hm := ift hm h39_21
      refine g_tabIn (off := 1313) (tgt := 1352) C dL_law_39 (by rw [h39_21]; decide) (by rw [h39_21]; decide) (by rw [h39_21]; rfl) (by decide) ?_
      refine g_aload_n C 1 dL_law_1352 rfl rfl ?_
      refine g_aload_n C 0 dL_law_1353 rfl rfl ?_
      refine g_iload C 4 dL_law_1354 rfl ?_
      refine g_iconst (v := 1) C dL_law_1356 rfl ?_
      refine g_iadd C dL_law_1357 ?_
      obtain ⟨hi1358, hm⟩ := ifn hm
      refine g_sald C hs hi1358 dL_law_1358 ?_
      refine g_aload_n C 3 dL_law_1359 rfl rfl ?_
      obtain ⟨r1360, hr1360, hm⟩ := bnd_some hm
      refine g_callSwB (As := [vR 9 0, vI (xs (l4 + (1 : Int32)).toNatClampNeg), vR 23 0]) (rest := []) C lkw_171 (k_L_imageShare X.2.1 G hl hG fu (xs (l4 + (1 : Int32)).toNatClampNeg) M r1360 hk9 hko hr1360) rfl rfl (Nat.le_of_ble_eq_true rfl) ⟨Nat.le_trans (Nat.le_of_ble_eq_true rfl) hrf, Nat.le_trans (Nat.le_of_ble_eq_true rfl) hrl⟩ hq1 dL_law_1360 ?_
      have C := C1
      have hq := hq1
      refine g_istore (ls' := [(5, vI r1360.1), (0, vR 24 0), (1, vR 9 0), (2, vR 10 0), (3, vR 23 0), (4, vI l4)]) C dL_law_1363 (by decide) rfl ?_
      refine g_aload_n C 3 dL_law_1365 rfl rfl ?_
      refine g_aload_n C 1 dL_law_1366 rfl rfl ?_
      refine g_iload C 5 dL_law_1367 rfl ?_
      refine g_iconst (v := 1) C dL_law_1369 rfl ?_
      refine g_iadd C dL_law_1370 ?_
      obtain ⟨hi1371, hm⟩ := ifn hm
      refine g_sald C hs hi1371 dL_law_1371 ?_
      obtain ⟨r1372, hr1372, hm⟩ := bnd_some hm
      refine g_callVi_k (As := [vI (xs (l4 + (1 : Int32)).toNatClampNeg)]) (rest := []) C lk_L_173 (k_X10_imageShare X.2.1 G hl hG fu (xs (l4 + (1 : Int32)).toNatClampNeg) r1360.2 r1372 hkm hr1372) (by decide) rfl rfl rfl (Nat.le_of_ble_eq_true rfl) ⟨Nat.le_trans (Nat.le_of_ble_eq_true rfl) hrf, Nat.le_trans (Nat.le_of_ble_eq_true rfl) hrl⟩ hq dL_law_1372 ?_
      refine g_istore (ls' := [(6, vI r1372.1), (5, vI r1360.1), (0, vR 24 0), (1, vR 9 0), (2, vR 10 0), (3, vR 23 0), (4, vI l4)]) C dL_law_1375 (by decide) rfl ?_
      refine g_aload_n C 4 dL_law_1377 rfl rfl ?_
      obtain ⟨r1378, hr1378, hm⟩ := bnd_some hm
      refine g_callVi_k (As := []) (rest := []) C lk_L_99 (k_X10_thrown X.2.1 G hl hG fu  r1372.2 r1378 hkm hr1378) (by decide) rfl rfl rfl (Nat.le_of_ble_eq_true rfl) ⟨Nat.le_trans (Nat.le_of_ble_eq_true rfl) hrf, Nat.le_trans (Nat.le_of_ble_eq_true rfl) hrl⟩ hq dL_law_1378 ?_
      refine g_iload C 1 dL_law_1381 rfl ?_
      refine g_icmp_eq (tgt := 1388) C dL_law_1383 (by decide) (fun h1383 => ?_) (fun h1383 => ?_)
      · have hm := ift hm h1383
        refine g_iload C 1 dL_law_1388 rfl ?_
        refine g_if_ne (tgt := 1405) C dL_law_1390 (by decide) (fun h1390 => ?_) (fun h1390 => ?_)
        · have hm := ife hm h1390
          exact g_sub [2, 3, 4, 5, 6] rfl (g_pc rfl (J1405  r1378.2 hm))
        · have hm := ift hm h1390
          refine g_aload_n C 5 dL_law_1393 rfl rfl ?_
          refine g_iconst (v := 0) C dL_law_1394 rfl ?_
          obtain ⟨hi1395, hm⟩ := ifn hm
          refine g_lald C (by decide) hi1395 dL_law_1395 ?_
          refine g_iload C 0 dL_law_1396 rfl ?_
          refine g_i2l C dL_law_1398 ?_
          refine g_lcmp C dL_law_1399 ?_
          refine g_if_eq (tgt := 1405) C dL_law_1400 (by decide) (fun h1400 => ?_) (fun h1400 => ?_)
          · have hm := ift hm h1400
            exact g_sub [2, 3, 4, 5, 6] rfl (g_pc rfl (J1405  r1378.2 hm))
          · have hm := ife hm h1400
            refine g_iconst (v := 0) C dL_law_1403 rfl ?_
            obtain rfl := Option.some.inj hm
            have e23 := K23.2 _ rfl
            subst e23
            obtain rfl := Option.some.inj hk23
            exact absurd (show (0 : Int32) = 1 from h1) (by decide)
      · have hm := ife hm h1383
        refine g_iconst (v := 0) C dL_law_1386 rfl ?_
        obtain rfl := Option.some.inj hm
        have e23 := K23.2 _ rfl
        subst e23
        obtain rfl := Option.some.inj hk23
        exact absurd (show (0 : Int32) = 1 from h1) (by decide)
    have hm := ife hm h39_21
    by_cases h39_22 : ((xs l4.toNatClampNeg) &&& (31 : Int32)) = (22 : Int32)
    · have hm := ift hm h39_22
      refine g_tabIn (off := 1369) (tgt := 1408) C dL_law_39 (by rw [h39_22]; decide) (by rw [h39_22]; decide) (by rw [h39_22]; rfl) (by decide) ?_
      refine g_aload_n C 1 dL_law_1408 rfl rfl ?_
      refine g_aload_n C 0 dL_law_1409 rfl rfl ?_
      refine g_iload C 4 dL_law_1410 rfl ?_
      refine g_iconst (v := 1) C dL_law_1412 rfl ?_
      refine g_iadd C dL_law_1413 ?_
      obtain ⟨hi1414, hm⟩ := ifn hm
      refine g_sald C hs hi1414 dL_law_1414 ?_
      refine g_aload_n C 0 dL_law_1415 rfl rfl ?_
      refine g_iload C 4 dL_law_1416 rfl ?_
      refine g_iconst (v := 2) C dL_law_1418 rfl ?_
      refine g_iadd C dL_law_1419 ?_
      obtain ⟨hi1420, hm⟩ := ifn hm
      refine g_sald C hs hi1420 dL_law_1420 ?_
      refine g_aload_n C 3 dL_law_1421 rfl rfl ?_
      obtain ⟨r1422, hr1422, hm⟩ := bnd_some hm
      refine g_callSwB (As := [vR 9 0, vI (xs (l4 + (1 : Int32)).toNatClampNeg), vI (xs (l4 + (2 : Int32)).toNatClampNeg), vR 23 0]) (rest := []) C lkw_174 (k_L_separate X.2.1 G hl hG fu (xs (l4 + (1 : Int32)).toNatClampNeg) (xs (l4 + (2 : Int32)).toNatClampNeg) M r1422 hk9 hko hr1422) rfl rfl (Nat.le_of_ble_eq_true rfl) ⟨Nat.le_trans (Nat.le_of_ble_eq_true rfl) hrf, Nat.le_trans (Nat.le_of_ble_eq_true rfl) hrl⟩ hq1 dL_law_1422 ?_
      have C := C1
      have hq := hq1
      refine g_istore (ls' := [(5, vI r1422.1), (0, vR 24 0), (1, vR 9 0), (2, vR 10 0), (3, vR 23 0), (4, vI l4)]) C dL_law_1425 (by decide) rfl ?_
      refine g_aload_n C 3 dL_law_1427 rfl rfl ?_
      refine g_aload_n C 1 dL_law_1428 rfl rfl ?_
      refine g_iload C 5 dL_law_1429 rfl ?_
      refine g_iconst (v := 1) C dL_law_1431 rfl ?_
      refine g_iadd C dL_law_1432 ?_
      obtain ⟨hi1433, hm⟩ := ifn hm
      refine g_sald C hs hi1433 dL_law_1433 ?_
      refine g_aload_n C 1 dL_law_1434 rfl rfl ?_
      refine g_iload C 5 dL_law_1435 rfl ?_
      refine g_iconst (v := 2) C dL_law_1437 rfl ?_
      refine g_iadd C dL_law_1438 ?_
      obtain ⟨hi1439, hm⟩ := ifn hm
      refine g_sald C hs hi1439 dL_law_1439 ?_
      obtain ⟨r1440, hr1440, hm⟩ := bnd_some hm
      refine g_callVi_k (As := [vI (xs (l4 + (1 : Int32)).toNatClampNeg), vI (xs (l4 + (2 : Int32)).toNatClampNeg)]) (rest := []) C lk_L_176 (k_X10_separate X.2.1 G hl hG fu (xs (l4 + (1 : Int32)).toNatClampNeg) (xs (l4 + (2 : Int32)).toNatClampNeg) r1422.2 r1440 hkm hr1440) (by decide) rfl rfl rfl (Nat.le_of_ble_eq_true rfl) ⟨Nat.le_trans (Nat.le_of_ble_eq_true rfl) hrf, Nat.le_trans (Nat.le_of_ble_eq_true rfl) hrl⟩ hq dL_law_1440 ?_
      refine g_istore (ls' := [(6, vI r1440.1), (5, vI r1422.1), (0, vR 24 0), (1, vR 9 0), (2, vR 10 0), (3, vR 23 0), (4, vI l4)]) C dL_law_1443 (by decide) rfl ?_
      refine g_aload_n C 4 dL_law_1445 rfl rfl ?_
      obtain ⟨r1446, hr1446, hm⟩ := bnd_some hm
      refine g_callVi_k (As := []) (rest := []) C lk_L_99 (k_X10_thrown X.2.1 G hl hG fu  r1440.2 r1446 hkm hr1446) (by decide) rfl rfl rfl (Nat.le_of_ble_eq_true rfl) ⟨Nat.le_trans (Nat.le_of_ble_eq_true rfl) hrf, Nat.le_trans (Nat.le_of_ble_eq_true rfl) hrl⟩ hq dL_law_1446 ?_
      refine g_iload C 1 dL_law_1449 rfl ?_
      refine g_icmp_eq (tgt := 1456) C dL_law_1451 (by decide) (fun h1451 => ?_) (fun h1451 => ?_)
      · have hm := ift hm h1451
        refine g_iload C 1 dL_law_1456 rfl ?_
        refine g_if_ne (tgt := 1473) C dL_law_1458 (by decide) (fun h1458 => ?_) (fun h1458 => ?_)
        · have hm := ife hm h1458
          exact g_sub [2, 3, 4, 5, 6] rfl (g_pc rfl (J1473  r1446.2 hm))
        · have hm := ift hm h1458
          refine g_aload_n C 5 dL_law_1461 rfl rfl ?_
          refine g_iconst (v := 0) C dL_law_1462 rfl ?_
          obtain ⟨hi1463, hm⟩ := ifn hm
          refine g_lald C (by decide) hi1463 dL_law_1463 ?_
          refine g_iload C 0 dL_law_1464 rfl ?_
          refine g_i2l C dL_law_1466 ?_
          refine g_lcmp C dL_law_1467 ?_
          refine g_if_eq (tgt := 1473) C dL_law_1468 (by decide) (fun h1468 => ?_) (fun h1468 => ?_)
          · have hm := ift hm h1468
            exact g_sub [2, 3, 4, 5, 6] rfl (g_pc rfl (J1473  r1446.2 hm))
          · have hm := ife hm h1468
            refine g_iconst (v := 0) C dL_law_1471 rfl ?_
            obtain rfl := Option.some.inj hm
            have e23 := K23.2 _ rfl
            subst e23
            obtain rfl := Option.some.inj hk23
            exact absurd (show (0 : Int32) = 1 from h1) (by decide)
      · have hm := ife hm h1451
        refine g_iconst (v := 0) C dL_law_1454 rfl ?_
        obtain rfl := Option.some.inj hm
        have e23 := K23.2 _ rfl
        subst e23
        obtain rfl := Option.some.inj hk23
        exact absurd (show (0 : Int32) = 1 from h1) (by decide)
    have hm := ife hm h39_22
    by_cases h39_23 : ((xs l4.toNatClampNeg) &&& (31 : Int32)) = (23 : Int32)
    · have hm := ift hm h39_23
      refine g_tabIn (off := 1437) (tgt := 1476) C dL_law_39 (by rw [h39_23]; decide) (by rw [h39_23]; decide) (by rw [h39_23]; rfl) (by decide) ?_
      refine g_aload_n C 1 dL_law_1476 rfl rfl ?_
      refine g_aload_n C 0 dL_law_1477 rfl rfl ?_
      refine g_iload C 4 dL_law_1478 rfl ?_
      refine g_iconst (v := 1) C dL_law_1480 rfl ?_
      refine g_iadd C dL_law_1481 ?_
      obtain ⟨hi1482, hm⟩ := ifn hm
      refine g_sald C hs hi1482 dL_law_1482 ?_
      refine g_aload_n C 0 dL_law_1483 rfl rfl ?_
      refine g_iload C 4 dL_law_1484 rfl ?_
      refine g_iconst (v := 2) C dL_law_1486 rfl ?_
      refine g_iadd C dL_law_1487 ?_
      obtain ⟨hi1488, hm⟩ := ifn hm
      refine g_sald C hs hi1488 dL_law_1488 ?_
      refine g_aload_n C 3 dL_law_1489 rfl rfl ?_
      obtain ⟨r1490, hr1490, hm⟩ := bnd_some hm
      refine g_callSwB (As := [vR 9 0, vI (xs (l4 + (1 : Int32)).toNatClampNeg), vI (xs (l4 + (2 : Int32)).toNatClampNeg), vR 23 0]) (rest := []) C lkw_177 (k_L_isProduct X.2.1 G hl hG fu (xs (l4 + (1 : Int32)).toNatClampNeg) (xs (l4 + (2 : Int32)).toNatClampNeg) M r1490 hk9 hko hr1490) rfl rfl (Nat.le_of_ble_eq_true rfl) ⟨Nat.le_trans (Nat.le_of_ble_eq_true rfl) hrf, Nat.le_trans (Nat.le_of_ble_eq_true rfl) hrl⟩ hq1 dL_law_1490 ?_
      have C := C1
      have hq := hq1
      refine g_istore (ls' := [(5, vI r1490.1), (0, vR 24 0), (1, vR 9 0), (2, vR 10 0), (3, vR 23 0), (4, vI l4)]) C dL_law_1493 (by decide) rfl ?_
      refine g_aload_n C 3 dL_law_1495 rfl rfl ?_
      refine g_aload_n C 1 dL_law_1496 rfl rfl ?_
      refine g_iload C 5 dL_law_1497 rfl ?_
      refine g_iconst (v := 1) C dL_law_1499 rfl ?_
      refine g_iadd C dL_law_1500 ?_
      obtain ⟨hi1501, hm⟩ := ifn hm
      refine g_sald C hs hi1501 dL_law_1501 ?_
      refine g_aload_n C 1 dL_law_1502 rfl rfl ?_
      refine g_iload C 5 dL_law_1503 rfl ?_
      refine g_iconst (v := 2) C dL_law_1505 rfl ?_
      refine g_iadd C dL_law_1506 ?_
      obtain ⟨hi1507, hm⟩ := ifn hm
      refine g_sald C hs hi1507 dL_law_1507 ?_
      obtain ⟨r1508, hr1508, hm⟩ := bnd_some hm
      refine g_callVi_k (As := [vI (xs (l4 + (1 : Int32)).toNatClampNeg), vI (xs (l4 + (2 : Int32)).toNatClampNeg)]) (rest := []) C lk_L_179 (k_X10_isProduct X.2.1 G hl hG fu (xs (l4 + (1 : Int32)).toNatClampNeg) (xs (l4 + (2 : Int32)).toNatClampNeg) r1490.2 r1508 hkm hr1508) (by decide) rfl rfl rfl (Nat.le_of_ble_eq_true rfl) ⟨Nat.le_trans (Nat.le_of_ble_eq_true rfl) hrf, Nat.le_trans (Nat.le_of_ble_eq_true rfl) hrl⟩ hq dL_law_1508 ?_
      refine g_istore (ls' := [(6, vI r1508.1), (5, vI r1490.1), (0, vR 24 0), (1, vR 9 0), (2, vR 10 0), (3, vR 23 0), (4, vI l4)]) C dL_law_1511 (by decide) rfl ?_
      refine g_aload_n C 4 dL_law_1513 rfl rfl ?_
      obtain ⟨r1514, hr1514, hm⟩ := bnd_some hm
      refine g_callVi_k (As := []) (rest := []) C lk_L_99 (k_X10_thrown X.2.1 G hl hG fu  r1508.2 r1514 hkm hr1514) (by decide) rfl rfl rfl (Nat.le_of_ble_eq_true rfl) ⟨Nat.le_trans (Nat.le_of_ble_eq_true rfl) hrf, Nat.le_trans (Nat.le_of_ble_eq_true rfl) hrl⟩ hq dL_law_1514 ?_
      refine g_iload C 1 dL_law_1517 rfl ?_
      refine g_icmp_eq (tgt := 1524) C dL_law_1519 (by decide) (fun h1519 => ?_) (fun h1519 => ?_)
      · have hm := ift hm h1519
        refine g_iload C 1 dL_law_1524 rfl ?_
        refine g_if_ne (tgt := 1548) C dL_law_1526 (by decide) (fun h1526 => ?_) (fun h1526 => ?_)
        · have hm := ife hm h1526
          exact g_sub [2, 3, 4, 5, 6] rfl (g_pc rfl (J1548  r1514.2 hm))
        · have hm := ift hm h1526
          refine g_aload_n C 5 dL_law_1529 rfl rfl ?_
          refine g_iconst (v := 0) C dL_law_1530 rfl ?_
          obtain ⟨hi1531, hm⟩ := ifn hm
          refine g_lald C (by decide) hi1531 dL_law_1531 ?_
          refine g_iload C 0 dL_law_1532 rfl ?_
          refine g_if_eq (tgt := 1541) C dL_law_1534 (by decide) (fun h1534 => ?_) (fun h1534 => ?_)
          · have hm := ift hm h1534
            refine g_lconst (v := 0) C dL_law_1541 rfl ?_
            exact g_sub [2, 3, 4, 5, 6] rfl (g_pc rfl (J1542 (r1514.2.2 23 0 (0 : Int32).toNatClampNeg) (0 : Int64) r1514.2 hm))
          · have hm := ife hm h1534
            refine g_lconst (v := 1) C dL_law_1537 rfl ?_
            refine g_goto (tgt := 1542) C dL_law_1538 (by decide) ?_
            exact g_sub [2, 3, 4, 5, 6] rfl (g_pc rfl (J1542 (r1514.2.2 23 0 (0 : Int32).toNatClampNeg) (1 : Int64) r1514.2 hm))
      · have hm := ife hm h1519
        refine g_iconst (v := 0) C dL_law_1522 rfl ?_
        obtain rfl := Option.some.inj hm
        have e23 := K23.2 _ rfl
        subst e23
        obtain rfl := Option.some.inj hk23
        exact absurd (show (0 : Int32) = 1 from h1) (by decide)
    have hm := ife hm h39_23
    by_cases h39_24 : ((xs l4.toNatClampNeg) &&& (31 : Int32)) = (24 : Int32)
    · have hm := ift hm h39_24
      refine g_tabIn (off := 1512) (tgt := 1551) C dL_law_39 (by rw [h39_24]; decide) (by rw [h39_24]; decide) (by rw [h39_24]; rfl) (by decide) ?_
      refine g_aload_n C 1 dL_law_1551 rfl rfl ?_
      refine g_aload_n C 0 dL_law_1552 rfl rfl ?_
      refine g_iload C 4 dL_law_1553 rfl ?_
      refine g_iconst (v := 1) C dL_law_1555 rfl ?_
      refine g_iadd C dL_law_1556 ?_
      obtain ⟨hi1557, hm⟩ := ifn hm
      refine g_sald C hs hi1557 dL_law_1557 ?_
      refine g_aload_n C 0 dL_law_1558 rfl rfl ?_
      refine g_iload C 4 dL_law_1559 rfl ?_
      refine g_iconst (v := 2) C dL_law_1561 rfl ?_
      refine g_iadd C dL_law_1562 ?_
      obtain ⟨hi1563, hm⟩ := ifn hm
      refine g_sald C hs hi1563 dL_law_1563 ?_
      refine g_aload_n C 0 dL_law_1564 rfl rfl ?_
      refine g_iload C 4 dL_law_1565 rfl ?_
      refine g_iconst (v := 3) C dL_law_1567 rfl ?_
      refine g_iadd C dL_law_1568 ?_
      obtain ⟨hi1569, hm⟩ := ifn hm
      refine g_sald C hs hi1569 dL_law_1569 ?_
      refine g_aload_n C 0 dL_law_1570 rfl rfl ?_
      refine g_iload C 4 dL_law_1571 rfl ?_
      refine g_iconst (v := 4) C dL_law_1573 rfl ?_
      refine g_iadd C dL_law_1574 ?_
      obtain ⟨hi1575, hm⟩ := ifn hm
      refine g_sald C hs hi1575 dL_law_1575 ?_
      refine g_aload_n C 3 dL_law_1576 rfl rfl ?_
      obtain ⟨r1577, hr1577, hm⟩ := bnd_some hm
      refine g_callSwB (As := [vR 9 0, vI (xs (l4 + (1 : Int32)).toNatClampNeg), vI (xs (l4 + (2 : Int32)).toNatClampNeg), vI (xs (l4 + (3 : Int32)).toNatClampNeg), vI (xs (l4 + (4 : Int32)).toNatClampNeg), vR 23 0]) (rest := []) C lkw_180 (k_L_isPullback X.2.1 G hl hG fu (xs (l4 + (1 : Int32)).toNatClampNeg) (xs (l4 + (2 : Int32)).toNatClampNeg) (xs (l4 + (3 : Int32)).toNatClampNeg) (xs (l4 + (4 : Int32)).toNatClampNeg) M r1577 hk9 hko hr1577) rfl rfl (Nat.le_of_ble_eq_true rfl) ⟨Nat.le_trans (Nat.le_of_ble_eq_true rfl) hrf, Nat.le_trans (Nat.le_of_ble_eq_true rfl) hrl⟩ hq1 dL_law_1577 ?_
      have C := C1
      have hq := hq1
      refine g_istore (ls' := [(5, vI r1577.1), (0, vR 24 0), (1, vR 9 0), (2, vR 10 0), (3, vR 23 0), (4, vI l4)]) C dL_law_1580 (by decide) rfl ?_
      refine g_aload_n C 3 dL_law_1582 rfl rfl ?_
      refine g_aload_n C 1 dL_law_1583 rfl rfl ?_
      refine g_iload C 5 dL_law_1584 rfl ?_
      refine g_iconst (v := 1) C dL_law_1586 rfl ?_
      refine g_iadd C dL_law_1587 ?_
      obtain ⟨hi1588, hm⟩ := ifn hm
      refine g_sald C hs hi1588 dL_law_1588 ?_
      refine g_aload_n C 1 dL_law_1589 rfl rfl ?_
      refine g_iload C 5 dL_law_1590 rfl ?_
      refine g_iconst (v := 2) C dL_law_1592 rfl ?_
      refine g_iadd C dL_law_1593 ?_
      obtain ⟨hi1594, hm⟩ := ifn hm
      refine g_sald C hs hi1594 dL_law_1594 ?_
      refine g_aload_n C 1 dL_law_1595 rfl rfl ?_
      refine g_iload C 5 dL_law_1596 rfl ?_
      refine g_iconst (v := 3) C dL_law_1598 rfl ?_
      refine g_iadd C dL_law_1599 ?_
      obtain ⟨hi1600, hm⟩ := ifn hm
      refine g_sald C hs hi1600 dL_law_1600 ?_
      refine g_aload_n C 1 dL_law_1601 rfl rfl ?_
      refine g_iload C 5 dL_law_1602 rfl ?_
      refine g_iconst (v := 4) C dL_law_1604 rfl ?_
      refine g_iadd C dL_law_1605 ?_
      obtain ⟨hi1606, hm⟩ := ifn hm
      refine g_sald C hs hi1606 dL_law_1606 ?_
      obtain ⟨r1607, hr1607, hm⟩ := bnd_some hm
      refine g_callVi_k (As := [vI (xs (l4 + (1 : Int32)).toNatClampNeg), vI (xs (l4 + (2 : Int32)).toNatClampNeg), vI (xs (l4 + (3 : Int32)).toNatClampNeg), vI (xs (l4 + (4 : Int32)).toNatClampNeg)]) (rest := []) C lk_L_182 (k_X10_isPullback X.2.1 G hl hG fu (xs (l4 + (1 : Int32)).toNatClampNeg) (xs (l4 + (2 : Int32)).toNatClampNeg) (xs (l4 + (3 : Int32)).toNatClampNeg) (xs (l4 + (4 : Int32)).toNatClampNeg) r1577.2 r1607 hkm hr1607) (by decide) rfl rfl rfl (Nat.le_of_ble_eq_true rfl) ⟨Nat.le_trans (Nat.le_of_ble_eq_true rfl) hrf, Nat.le_trans (Nat.le_of_ble_eq_true rfl) hrl⟩ hq dL_law_1607 ?_
      refine g_istore (ls' := [(6, vI r1607.1), (5, vI r1577.1), (0, vR 24 0), (1, vR 9 0), (2, vR 10 0), (3, vR 23 0), (4, vI l4)]) C dL_law_1610 (by decide) rfl ?_
      refine g_aload_n C 4 dL_law_1612 rfl rfl ?_
      obtain ⟨r1613, hr1613, hm⟩ := bnd_some hm
      refine g_callVi_k (As := []) (rest := []) C lk_L_99 (k_X10_thrown X.2.1 G hl hG fu  r1607.2 r1613 hkm hr1613) (by decide) rfl rfl rfl (Nat.le_of_ble_eq_true rfl) ⟨Nat.le_trans (Nat.le_of_ble_eq_true rfl) hrf, Nat.le_trans (Nat.le_of_ble_eq_true rfl) hrl⟩ hq dL_law_1613 ?_
      refine g_iload C 1 dL_law_1616 rfl ?_
      refine g_icmp_eq (tgt := 1623) C dL_law_1618 (by decide) (fun h1618 => ?_) (fun h1618 => ?_)
      · have hm := ift hm h1618
        refine g_iload C 1 dL_law_1623 rfl ?_
        refine g_if_ne (tgt := 1647) C dL_law_1625 (by decide) (fun h1625 => ?_) (fun h1625 => ?_)
        · have hm := ife hm h1625
          exact g_sub [2, 3, 4, 5, 6] rfl (g_pc rfl (J1647  r1613.2 hm))
        · have hm := ift hm h1625
          refine g_aload_n C 5 dL_law_1628 rfl rfl ?_
          refine g_iconst (v := 0) C dL_law_1629 rfl ?_
          obtain ⟨hi1630, hm⟩ := ifn hm
          refine g_lald C (by decide) hi1630 dL_law_1630 ?_
          refine g_iload C 0 dL_law_1631 rfl ?_
          refine g_if_eq (tgt := 1640) C dL_law_1633 (by decide) (fun h1633 => ?_) (fun h1633 => ?_)
          · have hm := ift hm h1633
            refine g_lconst (v := 0) C dL_law_1640 rfl ?_
            exact g_sub [2, 3, 4, 5, 6] rfl (g_pc rfl (J1641 (r1613.2.2 23 0 (0 : Int32).toNatClampNeg) (0 : Int64) r1613.2 hm))
          · have hm := ife hm h1633
            refine g_lconst (v := 1) C dL_law_1636 rfl ?_
            refine g_goto (tgt := 1641) C dL_law_1637 (by decide) ?_
            exact g_sub [2, 3, 4, 5, 6] rfl (g_pc rfl (J1641 (r1613.2.2 23 0 (0 : Int32).toNatClampNeg) (1 : Int64) r1613.2 hm))
      · have hm := ife hm h1618
        refine g_iconst (v := 0) C dL_law_1621 rfl ?_
        obtain rfl := Option.some.inj hm
        have e23 := K23.2 _ rfl
        subst e23
        obtain rfl := Option.some.inj hk23
        exact absurd (show (0 : Int32) = 1 from h1) (by decide)
    have hm := ife hm h39_24
    by_cases h39_25 : ((xs l4.toNatClampNeg) &&& (31 : Int32)) = (25 : Int32)
    · have hm := ift hm h39_25
      refine g_tabIn (off := 1611) (tgt := 1650) C dL_law_39 (by rw [h39_25]; decide) (by rw [h39_25]; decide) (by rw [h39_25]; rfl) (by decide) ?_
      refine g_aload_n C 1 dL_law_1650 rfl rfl ?_
      refine g_aload_n C 0 dL_law_1651 rfl rfl ?_
      refine g_iload C 4 dL_law_1652 rfl ?_
      refine g_iconst (v := 1) C dL_law_1654 rfl ?_
      refine g_iadd C dL_law_1655 ?_
      obtain ⟨hi1656, hm⟩ := ifn hm
      refine g_sald C hs hi1656 dL_law_1656 ?_
      refine g_aload_n C 0 dL_law_1657 rfl rfl ?_
      refine g_iload C 4 dL_law_1658 rfl ?_
      refine g_iconst (v := 2) C dL_law_1660 rfl ?_
      refine g_iadd C dL_law_1661 ?_
      obtain ⟨hi1662, hm⟩ := ifn hm
      refine g_sald C hs hi1662 dL_law_1662 ?_
      refine g_aload_n C 0 dL_law_1663 rfl rfl ?_
      refine g_iload C 4 dL_law_1664 rfl ?_
      refine g_iconst (v := 3) C dL_law_1666 rfl ?_
      refine g_iadd C dL_law_1667 ?_
      obtain ⟨hi1668, hm⟩ := ifn hm
      refine g_sald C hs hi1668 dL_law_1668 ?_
      refine g_aload_n C 3 dL_law_1669 rfl rfl ?_
      obtain ⟨r1670, hr1670, hm⟩ := bnd_some hm
      refine g_callSwB (As := [vR 9 0, vI (xs (l4 + (1 : Int32)).toNatClampNeg), vI (xs (l4 + (2 : Int32)).toNatClampNeg), vI (xs (l4 + (3 : Int32)).toNatClampNeg), vR 23 0]) (rest := []) C lkw_183 (k_L_isEqualizer X.2.1 G hl hG fu (xs (l4 + (1 : Int32)).toNatClampNeg) (xs (l4 + (2 : Int32)).toNatClampNeg) (xs (l4 + (3 : Int32)).toNatClampNeg) M r1670 hk9 hko hr1670) rfl rfl (Nat.le_of_ble_eq_true rfl) ⟨Nat.le_trans (Nat.le_of_ble_eq_true rfl) hrf, Nat.le_trans (Nat.le_of_ble_eq_true rfl) hrl⟩ hq1 dL_law_1670 ?_
      have C := C1
      have hq := hq1
      refine g_istore (ls' := [(5, vI r1670.1), (0, vR 24 0), (1, vR 9 0), (2, vR 10 0), (3, vR 23 0), (4, vI l4)]) C dL_law_1673 (by decide) rfl ?_
      refine g_aload_n C 3 dL_law_1675 rfl rfl ?_
      refine g_aload_n C 1 dL_law_1676 rfl rfl ?_
      refine g_iload C 5 dL_law_1677 rfl ?_
      refine g_iconst (v := 1) C dL_law_1679 rfl ?_
      refine g_iadd C dL_law_1680 ?_
      obtain ⟨hi1681, hm⟩ := ifn hm
      refine g_sald C hs hi1681 dL_law_1681 ?_
      refine g_aload_n C 1 dL_law_1682 rfl rfl ?_
      refine g_iload C 5 dL_law_1683 rfl ?_
      refine g_iconst (v := 2) C dL_law_1685 rfl ?_
      refine g_iadd C dL_law_1686 ?_
      obtain ⟨hi1687, hm⟩ := ifn hm
      refine g_sald C hs hi1687 dL_law_1687 ?_
      refine g_aload_n C 1 dL_law_1688 rfl rfl ?_
      refine g_iload C 5 dL_law_1689 rfl ?_
      refine g_iconst (v := 3) C dL_law_1691 rfl ?_
      refine g_iadd C dL_law_1692 ?_
      obtain ⟨hi1693, hm⟩ := ifn hm
      refine g_sald C hs hi1693 dL_law_1693 ?_
      obtain ⟨r1694, hr1694, hm⟩ := bnd_some hm
      refine g_callVi_k (As := [vI (xs (l4 + (1 : Int32)).toNatClampNeg), vI (xs (l4 + (2 : Int32)).toNatClampNeg), vI (xs (l4 + (3 : Int32)).toNatClampNeg)]) (rest := []) C lk_L_186 (k_X10_isEqualizer X.2.1 G hl hG fu (xs (l4 + (1 : Int32)).toNatClampNeg) (xs (l4 + (2 : Int32)).toNatClampNeg) (xs (l4 + (3 : Int32)).toNatClampNeg) r1670.2 r1694 hkm hr1694) (by decide) rfl rfl rfl (Nat.le_of_ble_eq_true rfl) ⟨Nat.le_trans (Nat.le_of_ble_eq_true rfl) hrf, Nat.le_trans (Nat.le_of_ble_eq_true rfl) hrl⟩ hq dL_law_1694 ?_
      refine g_istore (ls' := [(6, vI r1694.1), (5, vI r1670.1), (0, vR 24 0), (1, vR 9 0), (2, vR 10 0), (3, vR 23 0), (4, vI l4)]) C dL_law_1697 (by decide) rfl ?_
      refine g_aload_n C 4 dL_law_1699 rfl rfl ?_
      obtain ⟨r1700, hr1700, hm⟩ := bnd_some hm
      refine g_callVi_k (As := []) (rest := []) C lk_L_99 (k_X10_thrown X.2.1 G hl hG fu  r1694.2 r1700 hkm hr1700) (by decide) rfl rfl rfl (Nat.le_of_ble_eq_true rfl) ⟨Nat.le_trans (Nat.le_of_ble_eq_true rfl) hrf, Nat.le_trans (Nat.le_of_ble_eq_true rfl) hrl⟩ hq dL_law_1700 ?_
      refine g_iload C 1 dL_law_1703 rfl ?_
      refine g_icmp_eq (tgt := 1710) C dL_law_1705 (by decide) (fun h1705 => ?_) (fun h1705 => ?_)
      · have hm := ift hm h1705
        refine g_iload C 1 dL_law_1710 rfl ?_
        refine g_if_ne (tgt := 1734) C dL_law_1712 (by decide) (fun h1712 => ?_) (fun h1712 => ?_)
        · have hm := ife hm h1712
          exact g_sub [2, 3, 4, 5, 6] rfl (g_pc rfl (J1734  r1700.2 hm))
        · have hm := ift hm h1712
          refine g_aload_n C 5 dL_law_1715 rfl rfl ?_
          refine g_iconst (v := 0) C dL_law_1716 rfl ?_
          obtain ⟨hi1717, hm⟩ := ifn hm
          refine g_lald C (by decide) hi1717 dL_law_1717 ?_
          refine g_iload C 0 dL_law_1718 rfl ?_
          refine g_if_eq (tgt := 1727) C dL_law_1720 (by decide) (fun h1720 => ?_) (fun h1720 => ?_)
          · have hm := ift hm h1720
            refine g_lconst (v := 0) C dL_law_1727 rfl ?_
            exact g_sub [2, 3, 4, 5, 6] rfl (g_pc rfl (J1728 (r1700.2.2 23 0 (0 : Int32).toNatClampNeg) (0 : Int64) r1700.2 hm))
          · have hm := ife hm h1720
            refine g_lconst (v := 1) C dL_law_1723 rfl ?_
            refine g_goto (tgt := 1728) C dL_law_1724 (by decide) ?_
            exact g_sub [2, 3, 4, 5, 6] rfl (g_pc rfl (J1728 (r1700.2.2 23 0 (0 : Int32).toNatClampNeg) (1 : Int64) r1700.2 hm))
      · have hm := ife hm h1705
        refine g_iconst (v := 0) C dL_law_1708 rfl ?_
        obtain rfl := Option.some.inj hm
        have e23 := K23.2 _ rfl
        subst e23
        obtain rfl := Option.some.inj hk23
        exact absurd (show (0 : Int32) = 1 from h1) (by decide)
    have hm := ife hm h39_25
    by_cases h39_26 : ((xs l4.toNatClampNeg) &&& (31 : Int32)) = (26 : Int32)
    · have hm := ift hm h39_26
      refine g_tabIn (off := 1698) (tgt := 1737) C dL_law_39 (by rw [h39_26]; decide) (by rw [h39_26]; decide) (by rw [h39_26]; rfl) (by decide) ?_
      refine g_aload_n C 1 dL_law_1737 rfl rfl ?_
      obtain ⟨⟨x1738 | z1738, n1738⟩, hr1738, hm⟩ := bnd_some hm
      · refine g_callVl_k (As := []) (rest := []) C lk_L_187 (k_X9_digest X.2.1 G hl hG fu  M (Sum.inl x1738, n1738) hk9 hr1738) (by decide) rfl rfl rfl (Nat.le_of_ble_eq_true rfl) ⟨Nat.le_trans (Nat.le_of_ble_eq_true rfl) hrf, Nat.le_trans (Nat.le_of_ble_eq_true rfl) hrl⟩ hq dL_law_1738 ?_
        refine g_aload_n C 2 dL_law_1741 rfl rfl ?_
        obtain ⟨r1742, hr1742, hm⟩ := bnd_some hm
        refine g_callVl_k (As := []) (rest := [vL x1738]) C lk_L_191 (k_X10_digest X.2.1 G hl hG fu  n1738 r1742 hkm hr1742) (by decide) rfl rfl rfl (Nat.le_of_ble_eq_true rfl) ⟨Nat.le_trans (Nat.le_of_ble_eq_true rfl) hrf, Nat.le_trans (Nat.le_of_ble_eq_true rfl) hrl⟩ hq dL_law_1742 ?_
        refine g_lcmp C dL_law_1745 ?_
        refine g_if_eq (tgt := 1751) C dL_law_1746 (by decide) (fun h1746 => ?_) (fun h1746 => ?_)
        · have hm := ift hm h1746
          refine g_wdB ?_
          exact g_sub [0, 1, 2, 3, 4] rfl (g_pc rfl (J1751  r1742.2 hm))
        · have hm := ife hm h1746
          refine g_iconst (v := 0) C dL_law_1749 rfl ?_
          obtain rfl := Option.some.inj hm
          have e23 := K23.2 _ rfl
          subst e23
          obtain rfl := Option.some.inj hk23
          exact absurd (show (0 : Int32) = 1 from h1) (by decide)
      · cases hm
    have hm := ife hm h39_26
    refine g_tabOut (tgt := 1751) C dL_law_39 (tab_out 27 (by decide) (by intro j hj; rcases Nat.lt_succ_iff_lt_or_eq.mp hj with hj | rfl; rotate_left; exact h39_26; rcases Nat.lt_succ_iff_lt_or_eq.mp hj with hj | rfl; rotate_left; exact h39_25; rcases Nat.lt_succ_iff_lt_or_eq.mp hj with hj | rfl; rotate_left; exact h39_24; rcases Nat.lt_succ_iff_lt_or_eq.mp hj with hj | rfl; rotate_left; exact h39_23; rcases Nat.lt_succ_iff_lt_or_eq.mp hj with hj | rfl; rotate_left; exact h39_22; rcases Nat.lt_succ_iff_lt_or_eq.mp hj with hj | rfl; rotate_left; exact h39_21; rcases Nat.lt_succ_iff_lt_or_eq.mp hj with hj | rfl; rotate_left; exact h39_20; rcases Nat.lt_succ_iff_lt_or_eq.mp hj with hj | rfl; rotate_left; exact h39_19; rcases Nat.lt_succ_iff_lt_or_eq.mp hj with hj | rfl; rotate_left; exact h39_18; rcases Nat.lt_succ_iff_lt_or_eq.mp hj with hj | rfl; rotate_left; exact h39_17; rcases Nat.lt_succ_iff_lt_or_eq.mp hj with hj | rfl; rotate_left; exact h39_16; rcases Nat.lt_succ_iff_lt_or_eq.mp hj with hj | rfl; rotate_left; exact h39_15; rcases Nat.lt_succ_iff_lt_or_eq.mp hj with hj | rfl; rotate_left; exact h39_14; rcases Nat.lt_succ_iff_lt_or_eq.mp hj with hj | rfl; rotate_left; exact h39_13; rcases Nat.lt_succ_iff_lt_or_eq.mp hj with hj | rfl; rotate_left; exact h39_12; rcases Nat.lt_succ_iff_lt_or_eq.mp hj with hj | rfl; rotate_left; exact h39_11; rcases Nat.lt_succ_iff_lt_or_eq.mp hj with hj | rfl; rotate_left; exact h39_10; rcases Nat.lt_succ_iff_lt_or_eq.mp hj with hj | rfl; rotate_left; exact h39_9; rcases Nat.lt_succ_iff_lt_or_eq.mp hj with hj | rfl; rotate_left; exact h39_8; rcases Nat.lt_succ_iff_lt_or_eq.mp hj with hj | rfl; rotate_left; exact h39_7; rcases Nat.lt_succ_iff_lt_or_eq.mp hj with hj | rfl; rotate_left; exact h39_6; rcases Nat.lt_succ_iff_lt_or_eq.mp hj with hj | rfl; rotate_left; exact h39_5; rcases Nat.lt_succ_iff_lt_or_eq.mp hj with hj | rfl; rotate_left; exact h39_4; rcases Nat.lt_succ_iff_lt_or_eq.mp hj with hj | rfl; rotate_left; exact h39_3; rcases Nat.lt_succ_iff_lt_or_eq.mp hj with hj | rfl; rotate_left; exact h39_2; rcases Nat.lt_succ_iff_lt_or_eq.mp hj with hj | rfl; rotate_left; exact h39_1; rcases Nat.lt_succ_iff_lt_or_eq.mp hj with hj | rfl; rotate_left; exact h39_0; exact absurd hj (Nat.not_lt_zero _))) (by decide) ?_
    refine g_wdB ?_
    exact g_sub [0, 1, 2, 3, 4] rfl (g_pc rfl (J1751  M hm))
