/-! ===== tables: methods by number, pools by class, the places of their words ===== -/
def tf_BW : List Jvm.Cond := lw_tbl.filter goodWord
theorem tf_inBW {w : Jvm.Cond} (i : Nat) (h : lw_tbl[i]? = some w) (hg : goodWord w = true) : w ∈ tf_BW := List.mem_filter.mpr ⟨List.mem_of_getElem? h, hg⟩
theorem tf_BW_good : ∀ w ∈ tf_BW, goodWord w = true := fun _ h => (List.mem_filter.mp h).2
def tf_NM : Nat := 244
set_option maxRecDepth 100000 in
theorem cw_X9_in : Jvm.Cond.code yX9_in cX9_in 3 (some .boolean) ∈ lw_tbl := List.mem_of_getElem? (i := 1319) rfl
set_option maxRecDepth 100000 in
theorem cw_X9_lesser : Jvm.Cond.code yX9_lesser cX9_lesser 2 (some .int) ∈ lw_tbl := List.mem_of_getElem? (i := 1468) rfl
set_option maxRecDepth 100000 in
theorem cw_X9_greater : Jvm.Cond.code yX9_greater cX9_greater 2 (some .int) ∈ lw_tbl := List.mem_of_getElem? (i := 1640) rfl
set_option maxRecDepth 100000 in
theorem cw_X9_of : Jvm.Cond.code yX9_of cX9_of 3 (some .int) ∈ lw_tbl := List.mem_of_getElem? (i := 1156) rfl
set_option maxRecDepth 100000 in
theorem cw_X9_puts : Jvm.Cond.code yX9_puts cX9_puts 4 (none) ∈ lw_tbl := List.mem_of_getElem? (i := 1160) rfl
set_option maxRecDepth 100000 in
theorem cw_X9_isArc : Jvm.Cond.code yX9_isArc cX9_isArc 2 (some .boolean) ∈ lw_tbl := List.mem_of_getElem? (i := 1536) rfl
set_option maxRecDepth 100000 in
theorem cw_X9_isPoint : Jvm.Cond.code yX9_isPoint cX9_isPoint 2 (some .boolean) ∈ lw_tbl := List.mem_of_getElem? (i := 1512) rfl
set_option maxRecDepth 100000 in
theorem cw_X9_areTwo : Jvm.Cond.code yX9_areTwo cX9_areTwo 3 (some .boolean) ∈ lw_tbl := List.mem_of_getElem? (i := 1508) rfl
set_option maxRecDepth 100000 in
theorem cw_X9_spell : Jvm.Cond.code yX9_spell cX9_spell 5 (some .int) ∈ lw_tbl := List.mem_of_getElem? (i := 1299) rfl
set_option maxRecDepth 100000 in
theorem cw_X9_see : Jvm.Cond.code yX9_see cX9_see 1 (some .int) ∈ lw_tbl := List.mem_of_getElem? (i := 1316) rfl
set_option maxRecDepth 100000 in
theorem cw_X9_token : Jvm.Cond.code yX9_token cX9_token 3 (none) ∈ lw_tbl := List.mem_of_getElem? (i := 1312) rfl
set_option maxRecDepth 100000 in
theorem cw_X9_fails : Jvm.Cond.code yX9_fails cX9_fails 1 (some .boolean) ∈ lw_tbl := List.mem_of_getElem? (i := 1345) rfl
set_option maxRecDepth 100000 in
theorem cw_X9_isBad : Jvm.Cond.code yX9_isBad cX9_isBad 2 (none) ∈ lw_tbl := List.mem_of_getElem? (i := 1333) rfl
set_option maxRecDepth 100000 in
theorem cw_X9_takes : Jvm.Cond.code yX9_takes cX9_takes 4 (some .boolean) ∈ lw_tbl := List.mem_of_getElem? (i := 1341) rfl
set_option maxRecDepth 100000 in
theorem cw_X9_atFirst : Jvm.Cond.code yX9_atFirst cX9_atFirst 2 (none) ∈ lw_tbl := List.mem_of_getElem? (i := 1144) rfl
set_option maxRecDepth 100000 in
theorem cw_X9_takesPoint : Jvm.Cond.code yX9_takesPoint cX9_takesPoint 4 (some .boolean) ∈ lw_tbl := List.mem_of_getElem? (i := 1337) rfl
set_option maxRecDepth 100000 in
theorem cw_X9_arcLine : Jvm.Cond.code yX9_arcLine cX9_arcLine 3 (some .boolean) ∈ lw_tbl := List.mem_of_getElem? (i := 1329) rfl
set_option maxRecDepth 100000 in
theorem cw_X9_ruleBy : Jvm.Cond.code yX9_ruleBy cX9_ruleBy 2 (some .int) ∈ lw_tbl := List.mem_of_getElem? (i := 1348) rfl
set_option maxRecDepth 100000 in
theorem cw_X9_gridLine : Jvm.Cond.code yX9_gridLine cX9_gridLine 4 (some .boolean) ∈ lw_tbl := List.mem_of_getElem? (i := 1323) rfl
set_option maxRecDepth 100000 in
theorem cw_X9_orderLine : Jvm.Cond.code yX9_orderLine cX9_orderLine 8 (some .boolean) ∈ lw_tbl := List.mem_of_getElem? (i := 1359) rfl
set_option maxRecDepth 100000 in
theorem cw_X9_allLines : Jvm.Cond.code yX9_allLines cX9_allLines 5 (some .boolean) ∈ lw_tbl := List.mem_of_getElem? (i := 1308) rfl
set_option maxRecDepth 100000 in
theorem cw_X9_missing : Jvm.Cond.code yX9_missing cX9_missing 3 (some .int) ∈ lw_tbl := List.mem_of_getElem? (i := 1373) rfl
set_option maxRecDepth 100000 in
theorem cw_X9_isFaulty : Jvm.Cond.code yX9_isFaulty cX9_isFaulty 3 (none) ∈ lw_tbl := List.mem_of_getElem? (i := 1369) rfl
set_option maxRecDepth 100000 in
theorem cw_X9_taken : Jvm.Cond.code yX9_taken cX9_taken 2 (none) ∈ lw_tbl := List.mem_of_getElem? (i := 1148) rfl
set_option maxRecDepth 100000 in
theorem cw_X9_lay : Jvm.Cond.code yX9_lay cX9_lay 4 (some .int) ∈ lw_tbl := List.mem_of_getElem? (i := 1304) rfl
set_option maxRecDepth 100000 in
theorem cw_X9_fault : Jvm.Cond.code yX9_fault cX9_fault 2 (some .int) ∈ lw_tbl := List.mem_of_getElem? (i := 1377) rfl
set_option maxRecDepth 100000 in
theorem cw_X9_root : Jvm.Cond.code yX9_root cX9_root 1 (some .int) ∈ lw_tbl := List.mem_of_getElem? (i := 1393) rfl
set_option maxRecDepth 100000 in
theorem cw_X9_isLoan : Jvm.Cond.code yX9_isLoan cX9_isLoan 1 (some .boolean) ∈ lw_tbl := List.mem_of_getElem? (i := 1452) rfl
set_option maxRecDepth 100000 in
theorem cw_X9_hangs : Jvm.Cond.code yX9_hangs cX9_hangs 2 (some .boolean) ∈ lw_tbl := List.mem_of_getElem? (i := 1401) rfl
set_option maxRecDepth 100000 in
theorem cw_X9_settles : Jvm.Cond.code yX9_settles cX9_settles 5 (none) ∈ lw_tbl := List.mem_of_getElem? (i := 1397) rfl
set_option maxRecDepth 100000 in
theorem cw_X9_laysTree : Jvm.Cond.code yX9_laysTree cX9_laysTree 5 (none) ∈ lw_tbl := List.mem_of_getElem? (i := 1389) rfl
set_option maxRecDepth 100000 in
theorem cw_X9_reduced : Jvm.Cond.code yX9_reduced cX9_reduced 2 (some .int) ∈ lw_tbl := List.mem_of_getElem? (i := 1413) rfl
set_option maxRecDepth 100000 in
theorem cw_X9_offers : Jvm.Cond.code yX9_offers cX9_offers 3 (some .boolean) ∈ lw_tbl := List.mem_of_getElem? (i := 1409) rfl
set_option maxRecDepth 100000 in
theorem cw_X9_isBest : Jvm.Cond.code yX9_isBest cX9_isBest 1 (some .boolean) ∈ lw_tbl := List.mem_of_getElem? (i := 1385) rfl
set_option maxRecDepth 100000 in
theorem cw_X9_offerMany : Jvm.Cond.code yX9_offerMany cX9_offerMany 3 (some .int) ∈ lw_tbl := List.mem_of_getElem? (i := 1405) rfl
set_option maxRecDepth 100000 in
theorem cw_X9_farOf : Jvm.Cond.code yX9_farOf cX9_farOf 3 (some .int) ∈ lw_tbl := List.mem_of_getElem? (i := 1429) rfl
set_option maxRecDepth 100000 in
theorem cw_X9_enters : Jvm.Cond.code yX9_enters cX9_enters 5 (some .int) ∈ lw_tbl := List.mem_of_getElem? (i := 1425) rfl
set_option maxRecDepth 100000 in
theorem cw_X9_isAlong : Jvm.Cond.code yX9_isAlong cX9_isAlong 3 (some .boolean) ∈ lw_tbl := List.mem_of_getElem? (i := 1449) rfl
set_option maxRecDepth 100000 in
theorem cw_X9_addsStep : Jvm.Cond.code yX9_addsStep cX9_addsStep 3 (none) ∈ lw_tbl := List.mem_of_getElem? (i := 1445) rfl
set_option maxRecDepth 100000 in
theorem cw_X9_meets : Jvm.Cond.code yX9_meets cX9_meets 5 (some .int) ∈ lw_tbl := List.mem_of_getElem? (i := 1437) rfl
set_option maxRecDepth 100000 in
theorem cw_X9_goesDown : Jvm.Cond.code yX9_goesDown cX9_goesDown 7 (none) ∈ lw_tbl := List.mem_of_getElem? (i := 1441) rfl
set_option maxRecDepth 100000 in
theorem cw_X9_goesUp : Jvm.Cond.code yX9_goesUp cX9_goesUp 4 (none) ∈ lw_tbl := List.mem_of_getElem? (i := 1456) rfl
set_option maxRecDepth 100000 in
theorem cw_X9_roomOf : Jvm.Cond.code yX9_roomOf cX9_roomOf 3 (some .int) ∈ lw_tbl := List.mem_of_getElem? (i := 1465) rfl
set_option maxRecDepth 100000 in
theorem cw_X9_leastRoom : Jvm.Cond.code yX9_leastRoom cX9_leastRoom 3 (some .int) ∈ lw_tbl := List.mem_of_getElem? (i := 1460) rfl
set_option maxRecDepth 100000 in
theorem cw_X9_laysCycle : Jvm.Cond.code yX9_laysCycle cX9_laysCycle 5 (none) ∈ lw_tbl := List.mem_of_getElem? (i := 1433) rfl
set_option maxRecDepth 100000 in
theorem cw_X9_leaves : Jvm.Cond.code yX9_leaves cX9_leaves 4 (some .int) ∈ lw_tbl := List.mem_of_getElem? (i := 1472) rfl
set_option maxRecDepth 100000 in
theorem cw_X9_flows : Jvm.Cond.code yX9_flows cX9_flows 5 (none) ∈ lw_tbl := List.mem_of_getElem? (i := 1476) rfl
set_option maxRecDepth 100000 in
theorem cw_X9_goesOut : Jvm.Cond.code yX9_goesOut cX9_goesOut 2 (none) ∈ lw_tbl := List.mem_of_getElem? (i := 1480) rfl
set_option maxRecDepth 100000 in
theorem cw_X9_isPast : Jvm.Cond.code yX9_isPast cX9_isPast 5 (none) ∈ lw_tbl := List.mem_of_getElem? (i := 1484) rfl
set_option maxRecDepth 100000 in
theorem cw_X9_turns : Jvm.Cond.code yX9_turns cX9_turns 4 (some .int) ∈ lw_tbl := List.mem_of_getElem? (i := 1421) rfl
set_option maxRecDepth 100000 in
theorem cw_X9_pivotsTill : Jvm.Cond.code yX9_pivotsTill cX9_pivotsTill 3 (some .int) ∈ lw_tbl := List.mem_of_getElem? (i := 1492) rfl
set_option maxRecDepth 100000 in
theorem cw_X9_begins : Jvm.Cond.code yX9_begins cX9_begins 5 (none) ∈ lw_tbl := List.mem_of_getElem? (i := 1152) rfl
set_option maxRecDepth 100000 in
theorem cw_X9_beginsAgain : Jvm.Cond.code yX9_beginsAgain cX9_beginsAgain 2 (none) ∈ lw_tbl := List.mem_of_getElem? (i := 1520) rfl
set_option maxRecDepth 100000 in
theorem cw_X9_keeps : Jvm.Cond.code yX9_keeps cX9_keeps 3 (none) ∈ lw_tbl := List.mem_of_getElem? (i := 1417) rfl
set_option maxRecDepth 100000 in
theorem cw_X9_pivot : Jvm.Cond.code yX9_pivot cX9_pivot 1 (some .int) ∈ lw_tbl := List.mem_of_getElem? (i := 1381) rfl
set_option maxRecDepth 100000 in
theorem cw_X9_pivots : Jvm.Cond.code yX9_pivots cX9_pivots 2 (some .int) ∈ lw_tbl := List.mem_of_getElem? (i := 1488) rfl
set_option maxRecDepth 100000 in
theorem cw_X9_rule : Jvm.Cond.code yX9_rule cX9_rule 2 (some .boolean) ∈ lw_tbl := List.mem_of_getElem? (i := 1496) rfl
set_option maxRecDepth 100000 in
theorem cw_X9_canShift : Jvm.Cond.code yX9_canShift cX9_canShift 4 (some .boolean) ∈ lw_tbl := List.mem_of_getElem? (i := 1504) rfl
set_option maxRecDepth 100000 in
theorem cw_X9_shifts : Jvm.Cond.code yX9_shifts cX9_shifts 4 (none) ∈ lw_tbl := List.mem_of_getElem? (i := 1516) rfl
set_option maxRecDepth 100000 in
theorem cw_X9_shift : Jvm.Cond.code yX9_shift cX9_shift 4 (some .boolean) ∈ lw_tbl := List.mem_of_getElem? (i := 1500) rfl
set_option maxRecDepth 100000 in
theorem cw_X9_canBe : Jvm.Cond.code yX9_canBe cX9_canBe 5 (some .boolean) ∈ lw_tbl := List.mem_of_getElem? (i := 1532) rfl
set_option maxRecDepth 100000 in
theorem cw_X9_becomes : Jvm.Cond.code yX9_becomes cX9_becomes 4 (none) ∈ lw_tbl := List.mem_of_getElem? (i := 1540) rfl
set_option maxRecDepth 100000 in
theorem cw_X9_tells : Jvm.Cond.code yX9_tells cX9_tells 5 (some .boolean) ∈ lw_tbl := List.mem_of_getElem? (i := 1528) rfl
set_option maxRecDepth 100000 in
theorem cw_X9_block : Jvm.Cond.code yX9_block cX9_block 3 (some .boolean) ∈ lw_tbl := List.mem_of_getElem? (i := 1524) rfl
set_option maxRecDepth 100000 in
theorem cw_X9_widen : Jvm.Cond.code yX9_widen cX9_widen 3 (some .boolean) ∈ lw_tbl := List.mem_of_getElem? (i := 1544) rfl
set_option maxRecDepth 100000 in
theorem cw_X9_charge : Jvm.Cond.code yX9_charge cX9_charge 3 (some .boolean) ∈ lw_tbl := List.mem_of_getElem? (i := 1548) rfl
set_option maxRecDepth 100000 in
theorem cw_X9_cold : Jvm.Cond.code yX9_cold cX9_cold 1 (none) ∈ lw_tbl := List.mem_of_getElem? (i := 1552) rfl
set_option maxRecDepth 100000 in
theorem cw_X9_isDoneArc : Jvm.Cond.code yX9_isDoneArc cX9_isDoneArc 6 (some .boolean) ∈ lw_tbl := List.mem_of_getElem? (i := 1568) rfl
set_option maxRecDepth 100000 in
theorem cw_X9_isDone : Jvm.Cond.code yX9_isDone cX9_isDone 7 (some .boolean) ∈ lw_tbl := List.mem_of_getElem? (i := 1564) rfl
set_option maxRecDepth 100000 in
theorem cw_X9_work : Jvm.Cond.code yX9_work cX9_work 3 (some .int) ∈ lw_tbl := List.mem_of_getElem? (i := 1556) rfl
set_option maxRecDepth 100000 in
theorem cw_X9_undo : Jvm.Cond.code yX9_undo cX9_undo 2 (some .int) ∈ lw_tbl := List.mem_of_getElem? (i := 1572) rfl
set_option maxRecDepth 100000 in
theorem cw_X9_unmet : Jvm.Cond.code yX9_unmet cX9_unmet 3 (some .int) ∈ lw_tbl := List.mem_of_getElem? (i := 1580) rfl
set_option maxRecDepth 100000 in
theorem cw_X9_grid : Jvm.Cond.code yX9_grid cX9_grid 2 (some .int) ∈ lw_tbl := List.mem_of_getElem? (i := 1576) rfl
set_option maxRecDepth 100000 in
theorem cw_X9_arc : Jvm.Cond.code yX9_arc cX9_arc 3 (some .int) ∈ lw_tbl := List.mem_of_getElem? (i := 1584) rfl
set_option maxRecDepth 100000 in
theorem cw_X9_below : Jvm.Cond.code yX9_below cX9_below 5 (some .int) ∈ lw_tbl := List.mem_of_getElem? (i := 1592) rfl
set_option maxRecDepth 100000 in
theorem cw_X9_point : Jvm.Cond.code yX9_point cX9_point 3 (some .int) ∈ lw_tbl := List.mem_of_getElem? (i := 1588) rfl
set_option maxRecDepth 100000 in
theorem cw_X9_childOf : Jvm.Cond.code yX9_childOf cX9_childOf 4 (some .int) ∈ lw_tbl := List.mem_of_getElem? (i := 1600) rfl
set_option maxRecDepth 100000 in
theorem cw_X9_thread : Jvm.Cond.code yX9_thread cX9_thread 5 (some .int) ∈ lw_tbl := List.mem_of_getElem? (i := 1596) rfl
set_option maxRecDepth 100000 in
theorem cw_X9_costOfCycle : Jvm.Cond.code yX9_costOfCycle cX9_costOfCycle 4 (some .int) ∈ lw_tbl := List.mem_of_getElem? (i := 1608) rfl
set_option maxRecDepth 100000 in
theorem cw_X9_path : Jvm.Cond.code yX9_path cX9_path 5 (some .int) ∈ lw_tbl := List.mem_of_getElem? (i := 1604) rfl
set_option maxRecDepth 100000 in
theorem cw_X9_next : Jvm.Cond.code yX9_next cX9_next 4 (some .int) ∈ lw_tbl := List.mem_of_getElem? (i := 1612) rfl
set_option maxRecDepth 100000 in
theorem cw_X9_past : Jvm.Cond.code yX9_past cX9_past 3 (some .int) ∈ lw_tbl := List.mem_of_getElem? (i := 1616) rfl
set_option maxRecDepth 100000 in
theorem cw_X9_billed : Jvm.Cond.code yX9_billed cX9_billed 3 (some .int) ∈ lw_tbl := List.mem_of_getElem? (i := 1624) rfl
set_option maxRecDepth 100000 in
theorem cw_X9_bill : Jvm.Cond.code yX9_bill cX9_bill 4 (some .int) ∈ lw_tbl := List.mem_of_getElem? (i := 1620) rfl
set_option maxRecDepth 100000 in
theorem cw_X9_flowAt : Jvm.Cond.code yX9_flowAt cX9_flowAt 4 (some .int) ∈ lw_tbl := List.mem_of_getElem? (i := 1633) rfl
set_option maxRecDepth 100000 in
theorem cw_X9_ledger : Jvm.Cond.code yX9_ledger cX9_ledger 5 (some .int) ∈ lw_tbl := List.mem_of_getElem? (i := 1629) rfl
set_option maxRecDepth 100000 in
theorem cw_X9_wide : Jvm.Cond.code yX9_wide cX9_wide 6 (some .int) ∈ lw_tbl := List.mem_of_getElem? (i := 1637) rfl
set_option maxRecDepth 100000 in
theorem cw_X9_outOf : Jvm.Cond.code yX9_outOf cX9_outOf 3 (some .int) ∈ lw_tbl := List.mem_of_getElem? (i := 1656) rfl
set_option maxRecDepth 100000 in
theorem cw_X9_startOf : Jvm.Cond.code yX9_startOf cX9_startOf 5 (some .int) ∈ lw_tbl := List.mem_of_getElem? (i := 1652) rfl
set_option maxRecDepth 100000 in
theorem cw_X9_stopAt : Jvm.Cond.code yX9_stopAt cX9_stopAt 4 (some .int) ∈ lw_tbl := List.mem_of_getElem? (i := 1660) rfl
set_option maxRecDepth 100000 in
theorem cw_X9_goesTrip : Jvm.Cond.code yX9_goesTrip cX9_goesTrip 7 (some .boolean) ∈ lw_tbl := List.mem_of_getElem? (i := 1648) rfl
set_option maxRecDepth 100000 in
theorem cw_X9_trip : Jvm.Cond.code yX9_trip cX9_trip 5 (some .int) ∈ lw_tbl := List.mem_of_getElem? (i := 1644) rfl
set_option maxRecDepth 100000 in
theorem cw_X9_flowIn : Jvm.Cond.code yX9_flowIn cX9_flowIn 4 (some .int) ∈ lw_tbl := List.mem_of_getElem? (i := 1668) rfl
set_option maxRecDepth 100000 in
theorem cw_X9_apart : Jvm.Cond.code yX9_apart cX9_apart 4 (some .int) ∈ lw_tbl := List.mem_of_getElem? (i := 1664) rfl
set_option maxRecDepth 100000 in
theorem cw_X9_span : Jvm.Cond.code yX9_span cX9_span 7 (some .int) ∈ lw_tbl := List.mem_of_getElem? (i := 1672) rfl
set_option maxRecDepth 100000 in
theorem cw_X9_asNow : Jvm.Cond.code yX9_asNow cX9_asNow 2 (none) ∈ lw_tbl := List.mem_of_getElem? (i := 1680) rfl
set_option maxRecDepth 100000 in
theorem cw_X9_relaxes : Jvm.Cond.code yX9_relaxes cX9_relaxes 7 (some .boolean) ∈ lw_tbl := List.mem_of_getElem? (i := 1696) rfl
set_option maxRecDepth 100000 in
theorem cw_X9_laysCheapest : Jvm.Cond.code yX9_laysCheapest cX9_laysCheapest 4 (none) ∈ lw_tbl := List.mem_of_getElem? (i := 1692) rfl
set_option maxRecDepth 100000 in
theorem cw_X9_wanting : Jvm.Cond.code yX9_wanting cX9_wanting 3 (some .int) ∈ lw_tbl := List.mem_of_getElem? (i := 1700) rfl
set_option maxRecDepth 100000 in
theorem cw_X9_backBy : Jvm.Cond.code yX9_backBy cX9_backBy 2 (some .int) ∈ lw_tbl := List.mem_of_getElem? (i := 1708) rfl
set_option maxRecDepth 100000 in
theorem cw_X9_sendsTo : Jvm.Cond.code yX9_sendsTo cX9_sendsTo 5 (none) ∈ lw_tbl := List.mem_of_getElem? (i := 1704) rfl
set_option maxRecDepth 100000 in
theorem cw_X9_carries : Jvm.Cond.code yX9_carries cX9_carries 3 (some .boolean) ∈ lw_tbl := List.mem_of_getElem? (i := 1688) rfl
set_option maxRecDepth 100000 in
theorem cw_X9_cheapestCost : Jvm.Cond.code yX9_cheapestCost cX9_cheapestCost 3 (some .int) ∈ lw_tbl := List.mem_of_getElem? (i := 1684) rfl
set_option maxRecDepth 100000 in
theorem cw_X9_least : Jvm.Cond.code yX9_least cX9_least 1 (some .int) ∈ lw_tbl := List.mem_of_getElem? (i := 1676) rfl
set_option maxRecDepth 100000 in
theorem cw_X9_lessThan : Jvm.Cond.code yX9_lessThan cX9_lessThan 3 (some .int) ∈ lw_tbl := List.mem_of_getElem? (i := 1717) rfl
set_option maxRecDepth 100000 in
theorem cw_X9_worth : Jvm.Cond.code yX9_worth cX9_worth 4 (some .int) ∈ lw_tbl := List.mem_of_getElem? (i := 1713) rfl
set_option maxRecDepth 100000 in
theorem cw_X9_toll : Jvm.Cond.code yX9_toll cX9_toll 4 (some .int) ∈ lw_tbl := List.mem_of_getElem? (i := 1721) rfl
set_option maxRecDepth 100000 in
theorem cw_X9_bothOf : Jvm.Cond.code yX9_bothOf cX9_bothOf 5 (some .int) ∈ lw_tbl := List.mem_of_getElem? (i := 1729) rfl
set_option maxRecDepth 100000 in
theorem cw_X9_ones : Jvm.Cond.code yX9_ones cX9_ones 3 (some .int) ∈ lw_tbl := List.mem_of_getElem? (i := 1732) rfl
set_option maxRecDepth 100000 in
theorem cw_X9_cut : Jvm.Cond.code yX9_cut cX9_cut 4 (some .int) ∈ lw_tbl := List.mem_of_getElem? (i := 1725) rfl
set_option maxRecDepth 100000 in
theorem cw_X9_lack : Jvm.Cond.code yX9_lack cX9_lack 3 (some .int) ∈ lw_tbl := List.mem_of_getElem? (i := 1736) rfl
set_option maxRecDepth 100000 in
theorem cw_X9_steps : Jvm.Cond.code yX9_steps cX9_steps 3 (some .int) ∈ lw_tbl := List.mem_of_getElem? (i := 1740) rfl
set_option maxRecDepth 100000 in
theorem cw_X9_copies : Jvm.Cond.code yX9_copies cX9_copies 4 (none) ∈ lw_tbl := List.mem_of_getElem? (i := 1560) rfl
set_option maxRecDepth 100000 in
theorem cw_X9_copiesText : Jvm.Cond.code yX9_copiesText cX9_copiesText 4 (none) ∈ lw_tbl := List.mem_of_getElem? (i := 1748) rfl
set_option maxRecDepth 100000 in
theorem cw_X9_image : Jvm.Cond.code yX9_image cX9_image 2 (some .boolean) ∈ lw_tbl := List.mem_of_getElem? (i := 1744) rfl
set_option maxRecDepth 100000 in
theorem cw_X9_again : Jvm.Cond.code yX9_again cX9_again 2 (some .boolean) ∈ lw_tbl := List.mem_of_getElem? (i := 1752) rfl
set_option maxRecDepth 100000 in
theorem cw_X1_copyFrom : Jvm.Cond.code yX1_copyFrom cX1_copyFrom 2 (none) ∈ lw_tbl := List.mem_of_getElem? (i := 637) rfl
set_option maxRecDepth 100000 in
theorem cw_X1_clear : Jvm.Cond.code yX1_clear cX1_clear 3 (none) ∈ lw_tbl := List.mem_of_getElem? (i := 395) rfl
set_option maxRecDepth 100000 in
theorem cw_X1_addArc : Jvm.Cond.code yX1_addArc cX1_addArc 5 (none) ∈ lw_tbl := List.mem_of_getElem? (i := 621) rfl
set_option maxRecDepth 100000 in
theorem cw_X1_hasArc : Jvm.Cond.code yX1_hasArc cX1_hasArc 2 (some .boolean) ∈ lw_tbl := List.mem_of_getElem? (i := 775) rfl
set_option maxRecDepth 100000 in
theorem cw_X1_hasPoint : Jvm.Cond.code yX1_hasPoint cX1_hasPoint 2 (some .boolean) ∈ lw_tbl := List.mem_of_getElem? (i := 762) rfl
set_option maxRecDepth 100000 in
theorem cw_X1_hasTwoPoints : Jvm.Cond.code yX1_hasTwoPoints cX1_hasTwoPoints 3 (some .boolean) ∈ lw_tbl := List.mem_of_getElem? (i := 758) rfl
set_option maxRecDepth 100000 in
theorem cw_X1_toldNode : Jvm.Cond.code yX1_toldNode cX1_toldNode 2 (some .int) ∈ lw_tbl := List.mem_of_getElem? (i := 880) rfl
set_option maxRecDepth 100000 in
theorem cw_X1_setRule : Jvm.Cond.code yX1_setRule cX1_setRule 2 (some .boolean) ∈ lw_tbl := List.mem_of_getElem? (i := 743) rfl
set_option maxRecDepth 100000 in
theorem cw_X1_moveSupply : Jvm.Cond.code yX1_moveSupply cX1_moveSupply 4 (some .boolean) ∈ lw_tbl := List.mem_of_getElem? (i := 754) rfl
set_option maxRecDepth 100000 in
theorem cw_X1_setOpen : Jvm.Cond.code yX1_setOpen cX1_setOpen 3 (some .boolean) ∈ lw_tbl := List.mem_of_getElem? (i := 771) rfl
set_option maxRecDepth 100000 in
theorem cw_X1_setBound : Jvm.Cond.code yX1_setBound cX1_setBound 3 (some .boolean) ∈ lw_tbl := List.mem_of_getElem? (i := 783) rfl
set_option maxRecDepth 100000 in
theorem cw_X1_setCost : Jvm.Cond.code yX1_setCost cX1_setCost 3 (some .boolean) ∈ lw_tbl := List.mem_of_getElem? (i := 791) rfl
set_option maxRecDepth 100000 in
theorem cw_X1_begin : Jvm.Cond.code yX1_begin cX1_begin 4 (none) ∈ lw_tbl := List.mem_of_getElem? (i := 399) rfl
set_option maxRecDepth 100000 in
theorem cw_X1_hangByLoan : Jvm.Cond.code yX1_hangByLoan cX1_hangByLoan 4 (none) ∈ lw_tbl := List.mem_of_getElem? (i := 403) rfl
set_option maxRecDepth 100000 in
theorem cw_X1_setPrices : Jvm.Cond.code yX1_setPrices cX1_setPrices 6 (none) ∈ lw_tbl := List.mem_of_getElem? (i := 410) rfl
set_option maxRecDepth 100000 in
theorem cw_X1_reduced : Jvm.Cond.code yX1_reduced cX1_reduced 2 (some .int) ∈ lw_tbl := List.mem_of_getElem? (i := 665) rfl
set_option maxRecDepth 100000 in
theorem cw_X1_mayOffer : Jvm.Cond.code yX1_mayOffer cX1_mayOffer 2 (some .boolean) ∈ lw_tbl := List.mem_of_getElem? (i := 661) rfl
set_option maxRecDepth 100000 in
theorem cw_X1_offer : Jvm.Cond.code yX1_offer cX1_offer 2 (some .int) ∈ lw_tbl := List.mem_of_getElem? (i := 657) rfl
set_option maxRecDepth 100000 in
theorem cw_X1_countOffers : Jvm.Cond.code yX1_countOffers cX1_countOffers 3 (some .int) ∈ lw_tbl := List.mem_of_getElem? (i := 826) rfl
set_option maxRecDepth 100000 in
theorem cw_X1_pick : Jvm.Cond.code yX1_pick cX1_pick 8 (some .int) ∈ lw_tbl := List.mem_of_getElem? (i := 653) rfl
set_option maxRecDepth 100000 in
theorem cw_X1_room : Jvm.Cond.code yX1_room cX1_room 3 (some .int) ∈ lw_tbl := List.mem_of_getElem? (i := 704) rfl
set_option maxRecDepth 100000 in
theorem cw_X1_hasOnWay : Jvm.Cond.code yX1_hasOnWay cX1_hasOnWay 5 (some .boolean) ∈ lw_tbl := List.mem_of_getElem? (i := 679) rfl
set_option maxRecDepth 100000 in
theorem cw_X1_depth : Jvm.Cond.code yX1_depth cX1_depth 4 (some .int) ∈ lw_tbl := List.mem_of_getElem? (i := 687) rfl
set_option maxRecDepth 100000 in
theorem cw_X1_countBelow : Jvm.Cond.code yX1_countBelow cX1_countBelow 4 (some .int) ∈ lw_tbl := List.mem_of_getElem? (i := 1130) rfl
set_option maxRecDepth 100000 in
theorem cw_X1_loanFlow : Jvm.Cond.code yX1_loanFlow cX1_loanFlow 3 (some .int) ∈ lw_tbl := List.mem_of_getElem? (i := 1134) rfl
set_option maxRecDepth 100000 in
theorem cw_X1_childBehind : Jvm.Cond.code yX1_childBehind cX1_childBehind 4 (some .int) ∈ lw_tbl := List.mem_of_getElem? (i := 838) rfl
set_option maxRecDepth 100000 in
theorem cw_X1_threadBehind : Jvm.Cond.code yX1_threadBehind cX1_threadBehind 5 (some .int) ∈ lw_tbl := List.mem_of_getElem? (i := 842) rfl
set_option maxRecDepth 100000 in
theorem cw_X1_rehang : Jvm.Cond.code yX1_rehang cX1_rehang 11 (none) ∈ lw_tbl := List.mem_of_getElem? (i := 716) rfl
set_option maxRecDepth 100000 in
theorem cw_X1_unmet : Jvm.Cond.code yX1_unmet cX1_unmet 3 (some .int) ∈ lw_tbl := List.mem_of_getElem? (i := 830) rfl
set_option maxRecDepth 100000 in
theorem cw_X1_spent : Jvm.Cond.code yX1_spent cX1_spent 3 (some .int) ∈ lw_tbl := List.mem_of_getElem? (i := 897) rfl
set_option maxRecDepth 100000 in
theorem cw_X1_flowingCostAbove : Jvm.Cond.code yX1_flowingCostAbove cX1_flowingCostAbove 4 (some .int) ∈ lw_tbl := List.mem_of_getElem? (i := 908) rfl
set_option maxRecDepth 100000 in
theorem cw_X1_flowAtCost : Jvm.Cond.code yX1_flowAtCost cX1_flowAtCost 4 (some .int) ∈ lw_tbl := List.mem_of_getElem? (i := 912) rfl
set_option maxRecDepth 100000 in
theorem cw_X1_countApart : Jvm.Cond.code yX1_countApart cX1_countApart 6 (some .int) ∈ lw_tbl := List.mem_of_getElem? (i := 967) rfl
set_option maxRecDepth 100000 in
theorem cw_X1_spread : Jvm.Cond.code yX1_spread cX1_spread 5 (none) ∈ lw_tbl := List.mem_of_getElem? (i := 920) rfl
set_option maxRecDepth 100000 in
theorem cw_X1_shortOf : Jvm.Cond.code yX1_shortOf cX1_shortOf 4 (some .int) ∈ lw_tbl := List.mem_of_getElem? (i := 1006) rfl
set_option maxRecDepth 100000 in
theorem cw_X1_worstSet : Jvm.Cond.code yX1_worstSet cX1_worstSet 6 (some .int) ∈ lw_tbl := List.mem_of_getElem? (i := 1002) rfl
set_option maxRecDepth 100000 in
theorem cw_X1_lowestCost : Jvm.Cond.code yX1_lowestCost cX1_lowestCost 5 (some .int) ∈ lw_tbl := List.mem_of_getElem? (i := 985) rfl
set_option maxRecDepth 100000 in
theorem cw_X1_highestCost : Jvm.Cond.code yX1_highestCost cX1_highestCost 5 (some .int) ∈ lw_tbl := List.mem_of_getElem? (i := 976) rfl
set_option maxRecDepth 100000 in
theorem cw_X1_slope : Jvm.Cond.code yX1_slope cX1_slope 7 (some .int) ∈ lw_tbl := List.mem_of_getElem? (i := 980) rfl
set_option maxRecDepth 100000 in
theorem cw_X2_put : Jvm.Cond.code yX2_put cX2_put 2 (none) ∈ lw_tbl := List.mem_of_getElem? (i := 465) rfl
set_option maxRecDepth 100000 in
theorem cw_X2_copyFrom : Jvm.Cond.code yX2_copyFrom cX2_copyFrom 2 (none) ∈ lw_tbl := List.mem_of_getElem? (i := 1041) rfl
set_option maxRecDepth 100000 in
theorem cw_X3_way : Jvm.Cond.code yX3_way cX3_way 4 (none) ∈ lw_tbl := List.mem_of_getElem? (i := 852) rfl
set_option maxRecDepth 100000 in
theorem cw_X3_cycle : Jvm.Cond.code yX3_cycle cX3_cycle 7 (none) ∈ lw_tbl := List.mem_of_getElem? (i := 672) rfl
set_option maxRecDepth 100000 in
theorem cw_X3_step : Jvm.Cond.code yX3_step cX3_step 5 (some .int) ∈ lw_tbl := List.mem_of_getElem? (i := 649) rfl
set_option maxRecDepth 100000 in
theorem cw_X3_run : Jvm.Cond.code yX3_run cX3_run 5 (some .int) ∈ lw_tbl := List.mem_of_getElem? (i := 734) rfl
set_option maxRecDepth 100000 in
theorem cw_X3_leaving : Jvm.Cond.code yX3_leaving cX3_leaving 1 (some .int) ∈ lw_tbl := List.mem_of_getElem? (i := 875) rfl
set_option maxRecDepth 100000 in
theorem cw_X3_leastRoom : Jvm.Cond.code yX3_leastRoom cX3_leastRoom 4 (some .int) ∈ lw_tbl := List.mem_of_getElem? (i := 699) rfl
set_option maxRecDepth 100000 in
theorem cw_X3_cost : Jvm.Cond.code yX3_cost cX3_cost 4 (some .int) ∈ lw_tbl := List.mem_of_getElem? (i := 858) rfl
set_option maxRecDepth 100000 in
theorem cw_X3_told : Jvm.Cond.code yX3_told cX3_told 3 (some .int) ∈ lw_tbl := List.mem_of_getElem? (i := 862) rfl
set_option maxRecDepth 100000 in
theorem cw_X3_exchange : Jvm.Cond.code yX3_exchange cX3_exchange 6 (none) ∈ lw_tbl := List.mem_of_getElem? (i := 712) rfl
set_option maxRecDepth 100000 in
theorem cw_X3_meeting : Jvm.Cond.code yX3_meeting cX3_meeting 5 (some .int) ∈ lw_tbl := List.mem_of_getElem? (i := 675) rfl
set_option maxRecDepth 100000 in
theorem cw_X3_climb : Jvm.Cond.code yX3_climb cX3_climb 6 (none) ∈ lw_tbl := List.mem_of_getElem? (i := 695) rfl
set_option maxRecDepth 100000 in
theorem cw_X3_descend : Jvm.Cond.code yX3_descend cX3_descend 6 (none) ∈ lw_tbl := List.mem_of_getElem? (i := 683) rfl
set_option maxRecDepth 100000 in
theorem cw_X3_add : Jvm.Cond.code yX3_add cX3_add 3 (none) ∈ lw_tbl := List.mem_of_getElem? (i := 691) rfl
set_option maxRecDepth 100000 in
theorem cw_X5_clear : Jvm.Cond.code yX5_clear cX5_clear 1 (none) ∈ lw_tbl := List.mem_of_getElem? (i := 414) rfl
set_option maxRecDepth 100000 in
theorem cw_X5_copyFrom : Jvm.Cond.code yX5_copyFrom cX5_copyFrom 2 (none) ∈ lw_tbl := List.mem_of_getElem? (i := 644) rfl
set_option maxRecDepth 100000 in
theorem cw_X5_count : Jvm.Cond.code yX5_count cX5_count 5 (none) ∈ lw_tbl := List.mem_of_getElem? (i := 721) rfl
set_option maxRecDepth 100000 in
theorem cw_X5_told : Jvm.Cond.code yX5_told cX5_told 4 (some .int) ∈ lw_tbl := List.mem_of_getElem? (i := 888) rfl
set_option maxRecDepth 100000 in
theorem cw_X6_split : Jvm.Cond.code yX6_split cX6_split 4 (none) ∈ lw_tbl := List.mem_of_getElem? (i := 929) rfl
set_option maxRecDepth 100000 in
theorem cw_X6_told : Jvm.Cond.code yX6_told cX6_told 3 (some .int) ∈ lw_tbl := List.mem_of_getElem? (i := 955) rfl
set_option maxRecDepth 100000 in
theorem cw_X6_start : Jvm.Cond.code yX6_start cX6_start 3 (some .int) ∈ lw_tbl := List.mem_of_getElem? (i := 933) rfl
set_option maxRecDepth 100000 in
theorem cw_X6_surplus : Jvm.Cond.code yX6_surplus cX6_surplus 5 (some .int) ∈ lw_tbl := List.mem_of_getElem? (i := 937) rfl
set_option maxRecDepth 100000 in
theorem cw_X6_arcOut : Jvm.Cond.code yX6_arcOut cX6_arcOut 4 (some .int) ∈ lw_tbl := List.mem_of_getElem? (i := 941) rfl
set_option maxRecDepth 100000 in
theorem cw_X6_go : Jvm.Cond.code yX6_go cX6_go 5 (none) ∈ lw_tbl := List.mem_of_getElem? (i := 945) rfl
set_option maxRecDepth 100000 in
theorem cw_X6_keep : Jvm.Cond.code yX6_keep cX6_keep 3 (none) ∈ lw_tbl := List.mem_of_getElem? (i := 949) rfl
set_option maxRecDepth 100000 in
theorem cw_X8_spell : Jvm.Cond.code yX8_spell cX8_spell 5 (some .int) ∈ lw_tbl := List.mem_of_getElem? (i := 458) rfl
set_option maxRecDepth 100000 in
theorem cw_X8_lay : Jvm.Cond.code yX8_lay cX8_lay 1 (some .int) ∈ lw_tbl := List.mem_of_getElem? (i := 469) rfl
set_option maxRecDepth 100000 in
theorem cw_X8_fault : Jvm.Cond.code yX8_fault cX8_fault 2 (some .int) ∈ lw_tbl := List.mem_of_getElem? (i := 625) rfl
set_option maxRecDepth 100000 in
theorem cw_X8_pivot : Jvm.Cond.code yX8_pivot cX8_pivot 2 (some .int) ∈ lw_tbl := List.mem_of_getElem? (i := 629) rfl
set_option maxRecDepth 100000 in
theorem cw_X8_pivots : Jvm.Cond.code yX8_pivots cX8_pivots 3 (some .int) ∈ lw_tbl := List.mem_of_getElem? (i := 730) rfl
set_option maxRecDepth 100000 in
theorem cw_X8_rule : Jvm.Cond.code yX8_rule cX8_rule 2 (some .boolean) ∈ lw_tbl := List.mem_of_getElem? (i := 739) rfl
set_option maxRecDepth 100000 in
theorem cw_X8_shift : Jvm.Cond.code yX8_shift cX8_shift 4 (some .boolean) ∈ lw_tbl := List.mem_of_getElem? (i := 750) rfl
set_option maxRecDepth 100000 in
theorem cw_X8_block : Jvm.Cond.code yX8_block cX8_block 3 (some .boolean) ∈ lw_tbl := List.mem_of_getElem? (i := 767) rfl
set_option maxRecDepth 100000 in
theorem cw_X8_widen : Jvm.Cond.code yX8_widen cX8_widen 3 (some .boolean) ∈ lw_tbl := List.mem_of_getElem? (i := 779) rfl
set_option maxRecDepth 100000 in
theorem cw_X8_charge : Jvm.Cond.code yX8_charge cX8_charge 3 (some .boolean) ∈ lw_tbl := List.mem_of_getElem? (i := 787) rfl
set_option maxRecDepth 100000 in
theorem cw_X8_cold : Jvm.Cond.code yX8_cold cX8_cold 1 (none) ∈ lw_tbl := List.mem_of_getElem? (i := 795) rfl
set_option maxRecDepth 100000 in
theorem cw_X8_work : Jvm.Cond.code yX8_work cX8_work 2 (some .int) ∈ lw_tbl := List.mem_of_getElem? (i := 799) rfl
set_option maxRecDepth 100000 in
theorem cw_X8_undo : Jvm.Cond.code yX8_undo cX8_undo 1 (some .int) ∈ lw_tbl := List.mem_of_getElem? (i := 818) rfl
set_option maxRecDepth 100000 in
theorem cw_X8_grid : Jvm.Cond.code yX8_grid cX8_grid 2 (some .int) ∈ lw_tbl := List.mem_of_getElem? (i := 822) rfl
set_option maxRecDepth 100000 in
theorem cw_X8_thread : Jvm.Cond.code yX8_thread cX8_thread 4 (some .int) ∈ lw_tbl := List.mem_of_getElem? (i := 834) rfl
set_option maxRecDepth 100000 in
theorem cw_X8_path : Jvm.Cond.code yX8_path cX8_path 5 (some .int) ∈ lw_tbl := List.mem_of_getElem? (i := 847) rfl
set_option maxRecDepth 100000 in
theorem cw_X8_next : Jvm.Cond.code yX8_next cX8_next 3 (some .int) ∈ lw_tbl := List.mem_of_getElem? (i := 869) rfl
set_option maxRecDepth 100000 in
theorem cw_X8_past : Jvm.Cond.code yX8_past cX8_past 3 (some .int) ∈ lw_tbl := List.mem_of_getElem? (i := 884) rfl
set_option maxRecDepth 100000 in
theorem cw_X8_bill : Jvm.Cond.code yX8_bill cX8_bill 4 (some .int) ∈ lw_tbl := List.mem_of_getElem? (i := 893) rfl
set_option maxRecDepth 100000 in
theorem cw_X8_ledger : Jvm.Cond.code yX8_ledger cX8_ledger 5 (some .int) ∈ lw_tbl := List.mem_of_getElem? (i := 904) rfl
set_option maxRecDepth 100000 in
theorem cw_X8_wide : Jvm.Cond.code yX8_wide cX8_wide 4 (some .int) ∈ lw_tbl := List.mem_of_getElem? (i := 916) rfl
set_option maxRecDepth 100000 in
theorem cw_X8_trip : Jvm.Cond.code yX8_trip cX8_trip 3 (some .int) ∈ lw_tbl := List.mem_of_getElem? (i := 925) rfl
set_option maxRecDepth 100000 in
theorem cw_X8_apart : Jvm.Cond.code yX8_apart cX8_apart 2 (some .int) ∈ lw_tbl := List.mem_of_getElem? (i := 959) rfl
set_option maxRecDepth 100000 in
theorem cw_X8_span : Jvm.Cond.code yX8_span cX8_span 3 (some .int) ∈ lw_tbl := List.mem_of_getElem? (i := 971) rfl
set_option maxRecDepth 100000 in
theorem cw_X8_least : Jvm.Cond.code yX8_least cX8_least 1 (some .int) ∈ lw_tbl := List.mem_of_getElem? (i := 989) rfl
set_option maxRecDepth 100000 in
theorem cw_X8_lack : Jvm.Cond.code yX8_lack cX8_lack 1 (some .int) ∈ lw_tbl := List.mem_of_getElem? (i := 998) rfl
set_option maxRecDepth 100000 in
theorem cw_X8_cut : Jvm.Cond.code yX8_cut cX8_cut 1 (some .int) ∈ lw_tbl := List.mem_of_getElem? (i := 1017) rfl
set_option maxRecDepth 100000 in
theorem cw_X8_steps : Jvm.Cond.code yX8_steps cX8_steps 2 (some .int) ∈ lw_tbl := List.mem_of_getElem? (i := 1021) rfl
set_option maxRecDepth 100000 in
theorem cw_X8_worth : Jvm.Cond.code yX8_worth cX8_worth 4 (some .int) ∈ lw_tbl := List.mem_of_getElem? (i := 1026) rfl
set_option maxRecDepth 100000 in
theorem cw_X8_toll : Jvm.Cond.code yX8_toll cX8_toll 4 (some .int) ∈ lw_tbl := List.mem_of_getElem? (i := 1033) rfl
set_option maxRecDepth 100000 in
theorem cw_X8_image : Jvm.Cond.code yX8_image cX8_image 2 (some .boolean) ∈ lw_tbl := List.mem_of_getElem? (i := 1037) rfl
set_option maxRecDepth 100000 in
theorem cw_X8_again : Jvm.Cond.code yX8_again cX8_again 2 (some .boolean) ∈ lw_tbl := List.mem_of_getElem? (i := 1046) rfl
set_option maxRecDepth 100000 in
theorem cw_X8_hasImage : Jvm.Cond.code yX8_hasImage cX8_hasImage 2 (some .boolean) ∈ lw_tbl := List.mem_of_getElem? (i := 963) rfl
set_option maxRecDepth 100000 in
theorem cw_X8_takeFault : Jvm.Cond.code yX8_takeFault cX8_takeFault 1 (none) ∈ lw_tbl := List.mem_of_getElem? (i := 608) rfl
set_option maxRecDepth 100000 in
theorem cw_X8_saveAhead : Jvm.Cond.code yX8_saveAhead cX8_saveAhead 1 (none) ∈ lw_tbl := List.mem_of_getElem? (i := 633) rfl
set_option maxRecDepth 100000 in
theorem cw_X8_countAct : Jvm.Cond.code yX8_countAct cX8_countAct 2 (some .boolean) ∈ lw_tbl := List.mem_of_getElem? (i := 725) rfl
set_option maxRecDepth 100000 in
theorem cw_X8_leastOfTrial : Jvm.Cond.code yX8_leastOfTrial cX8_leastOfTrial 1 (some .int) ∈ lw_tbl := List.mem_of_getElem? (i := 993) rfl
set_option maxRecDepth 100000 in
theorem cw_X8_less : Jvm.Cond.code yX8_less cX8_less 2 (some .int) ∈ lw_tbl := List.mem_of_getElem? (i := 1029) rfl
set_option maxRecDepth 100000 in
theorem cw_X8_byteOf : Jvm.Cond.code yX8_byteOf cX8_byteOf 3 (some .int) ∈ lw_tbl := List.mem_of_getElem? (i := 461) rfl
set_option maxRecDepth 100000 in
theorem cw_X8_toldEdge : Jvm.Cond.code yX8_toldEdge cX8_toldEdge 1 (some .int) ∈ lw_tbl := List.mem_of_getElem? (i := 865) rfl
set_option maxRecDepth 100000 in
theorem cw_X8_isRule : Jvm.Cond.code yX8_isRule cX8_isRule 1 (some .boolean) ∈ lw_tbl := List.mem_of_getElem? (i := 746) rfl
set_option maxRecDepth 100000 in
theorem cw_X4_read : Jvm.Cond.code yX4_read cX4_read 5 (none) ∈ lw_tbl := List.mem_of_getElem? (i := 473) rfl
set_option maxRecDepth 100000 in
theorem cw_X4_readLine : Jvm.Cond.code yX4_readLine cX4_readLine 6 (some .boolean) ∈ lw_tbl := List.mem_of_getElem? (i := 484) rfl
set_option maxRecDepth 100000 in
theorem cw_X4_blame : Jvm.Cond.code yX4_blame cX4_blame 3 (none) ∈ lw_tbl := List.mem_of_getElem? (i := 554) rfl
set_option maxRecDepth 100000 in
theorem cw_X4_findToken : Jvm.Cond.code yX4_findToken cX4_findToken 4 (none) ∈ lw_tbl := List.mem_of_getElem? (i := 477) rfl
set_option maxRecDepth 100000 in
theorem cw_X4_kindOf : Jvm.Cond.code yX4_kindOf cX4_kindOf 1 (some .int) ∈ lw_tbl := List.mem_of_getElem? (i := 480) rfl
set_option maxRecDepth 100000 in
theorem cw_X4_verbHere : Jvm.Cond.code yX4_verbHere cX4_verbHere 5 (some (.object "TreeFlows$Verb")) ∈ lw_tbl := List.mem_of_getElem? (i := 488) rfl
set_option maxRecDepth 100000 in
theorem cw_X4_isHere : Jvm.Cond.code yX4_isHere cX4_isHere 4 (some .boolean) ∈ lw_tbl := List.mem_of_getElem? (i := 498) rfl
set_option maxRecDepth 100000 in
theorem cw_X4_numberHere : Jvm.Cond.code yX4_numberHere cX4_numberHere 4 (some .int) ∈ lw_tbl := List.mem_of_getElem? (i := 550) rfl
set_option maxRecDepth 100000 in
theorem cw_X4_number : Jvm.Cond.code yX4_number cX4_number 3 (some .int) ∈ lw_tbl := List.mem_of_getElem? (i := 578) rfl
set_option maxRecDepth 100000 in
theorem cw_X4_want : Jvm.Cond.code yX4_want cX4_want 7 (none) ∈ lw_tbl := List.mem_of_getElem? (i := 574) rfl
set_option maxRecDepth 100000 in
theorem cw_X4_checkGrid : Jvm.Cond.code yX4_checkGrid cX4_checkGrid 4 (none) ∈ lw_tbl := List.mem_of_getElem? (i := 558) rfl
set_option maxRecDepth 100000 in
theorem cw_X4_checkGridLine : Jvm.Cond.code yX4_checkGridLine cX4_checkGridLine 3 (none) ∈ lw_tbl := List.mem_of_getElem? (i := 562) rfl
set_option maxRecDepth 100000 in
theorem cw_X4_checkPointsThere : Jvm.Cond.code yX4_checkPointsThere cX4_checkPointsThere 3 (none) ∈ lw_tbl := List.mem_of_getElem? (i := 590) rfl
set_option maxRecDepth 100000 in
theorem cw_X4_isArc : Jvm.Cond.code yX4_isArc cX4_isArc 2 (some .boolean) ∈ lw_tbl := List.mem_of_getElem? (i := 582) rfl
set_option maxRecDepth 100000 in
theorem cw_X4_pointsTold : Jvm.Cond.code yX4_pointsTold cX4_pointsTold 3 (some .int) ∈ lw_tbl := List.mem_of_getElem? (i := 594) rfl
set_option maxRecDepth 100000 in
theorem cw_X4_sumOfSupplies : Jvm.Cond.code yX4_sumOfSupplies cX4_sumOfSupplies 3 (some .int) ∈ lw_tbl := List.mem_of_getElem? (i := 604) rfl
set_option maxRecDepth 100000 in
theorem cw_X4_checkOrders : Jvm.Cond.code yX4_checkOrders cX4_checkOrders 2 (none) ∈ lw_tbl := List.mem_of_getElem? (i := 803) rfl
set_option maxRecDepth 100000 in
theorem cw_X4_fill : Jvm.Cond.code yX4_fill cX4_fill 3 (none) ∈ lw_tbl := List.mem_of_getElem? (i := 612) rfl
set_option maxRecDepth 100000 in
theorem cw_X4_fillLine : Jvm.Cond.code yX4_fillLine cX4_fillLine 3 (none) ∈ lw_tbl := List.mem_of_getElem? (i := 617) rfl
set_option maxRecDepth 100000 in
theorem cw_X4_obey : Jvm.Cond.code yX4_obey cX4_obey 4 (some .boolean) ∈ lw_tbl := List.mem_of_getElem? (i := 807) rfl
set_option maxRecDepth 100000 in
theorem cw_X7_numbers : Jvm.Cond.code yX7_numbers cX7_numbers 2 (some .int) ∈ lw_tbl := List.mem_of_getElem? (i := 494) rfl
set_option maxRecDepth 100000 in
theorem cw_J6_bitCount_0f7a4 : Jvm.Cond.code yJ6_bitCount_0f7a4 cJ6_bitCount_0f7a4 1 (some .int) ∈ lw_tbl := List.mem_of_getElem? (i := 1009) rfl
abbrev tf_Row : Type := MethodName × Option FieldType × Nat × Nat × Nat × ByteArray × Nat × tf_Bk
def tf_RowOk (q : tf_Row) : Prop := tf_Bck q.2.2.2.2.2.1 q.2.2.2.2.2.2.1 q.2.2.2.2.2.2.2 = true ∧ Jvm.Cond.code q.1 q.2.2.2.2.2.1 q.2.2.2.2.2.2.1 q.2.1 ∈ lw_tbl
def tf_al0 : List tf_Row := [(yX9_in, some .boolean, 99, 3, 7, cX9_in, 3, tb_X9_in), (yX9_lesser, some .int, 99, 2, 7, cX9_lesser, 2, tb_X9_lesser), (yX9_greater, some .int, 99, 2, 7, cX9_greater, 2, tb_X9_greater), (yX9_of, some .int, 7, 2, 7, cX9_of, 3, tb_X9_of), (yX9_puts, none, 7, 3, 7, cX9_puts, 4, tb_X9_puts), (yX9_isArc, some .boolean, 7, 1, 7, cX9_isArc, 2, tb_X9_isArc), (yX9_isPoint, some .boolean, 7, 1, 7, cX9_isPoint, 2, tb_X9_isPoint), (yX9_areTwo, some .boolean, 7, 2, 7, cX9_areTwo, 3, tb_X9_areTwo), (yX9_spell, some .int, 7, 1, 7, cX9_spell, 5, tb_X9_spell), (yX9_see, some .int, 7, 0, 7, cX9_see, 1, tb_X9_see), (yX9_token, none, 7, 0, 7, cX9_token, 3, tb_X9_token), (yX9_fails, some .boolean, 7, 0, 7, cX9_fails, 1, tb_X9_fails), (yX9_isBad, none, 7, 1, 7, cX9_isBad, 2, tb_X9_isBad), (yX9_takes, some .boolean, 7, 3, 7, cX9_takes, 4, tb_X9_takes), (yX9_atFirst, none, 7, 0, 7, cX9_atFirst, 2, tb_X9_atFirst), (yX9_takesPoint, some .boolean, 7, 2, 7, cX9_takesPoint, 4, tb_X9_takesPoint), (yX9_arcLine, some .boolean, 7, 1, 7, cX9_arcLine, 3, tb_X9_arcLine), (yX9_ruleBy, some .int, 99, 1, 7, cX9_ruleBy, 2, tb_X9_ruleBy), (yX9_gridLine, some .boolean, 7, 1, 7, cX9_gridLine, 4, tb_X9_gridLine), (yX9_orderLine, some .boolean, 7, 1, 7, cX9_orderLine, 8, tb_X9_orderLine), (yX9_allLines, some .boolean, 7, 1, 7, cX9_allLines, 5, tb_X9_allLines), (yX9_missing, some .int, 7, 0, 7, cX9_missing, 3, tb_X9_missing), (yX9_isFaulty, none, 7, 2, 7, cX9_isFaulty, 3, tb_X9_isFaulty), (yX9_taken, none, 7, 0, 7, cX9_taken, 2, tb_X9_taken), (yX9_lay, some .int, 7, 0, 7, cX9_lay, 4, tb_X9_lay)]
theorem tf_al0_ok : ∀ q ∈ tf_al0, tf_RowOk q := List.forall_mem_cons.mpr ⟨⟨ck_X9_in, cw_X9_in⟩, List.forall_mem_cons.mpr ⟨⟨ck_X9_lesser, cw_X9_lesser⟩, List.forall_mem_cons.mpr ⟨⟨ck_X9_greater, cw_X9_greater⟩, List.forall_mem_cons.mpr ⟨⟨ck_X9_of, cw_X9_of⟩, List.forall_mem_cons.mpr ⟨⟨ck_X9_puts, cw_X9_puts⟩, List.forall_mem_cons.mpr ⟨⟨ck_X9_isArc, cw_X9_isArc⟩, List.forall_mem_cons.mpr ⟨⟨ck_X9_isPoint, cw_X9_isPoint⟩, List.forall_mem_cons.mpr ⟨⟨ck_X9_areTwo, cw_X9_areTwo⟩, List.forall_mem_cons.mpr ⟨⟨ck_X9_spell, cw_X9_spell⟩, List.forall_mem_cons.mpr ⟨⟨ck_X9_see, cw_X9_see⟩, List.forall_mem_cons.mpr ⟨⟨ck_X9_token, cw_X9_token⟩, List.forall_mem_cons.mpr ⟨⟨ck_X9_fails, cw_X9_fails⟩, List.forall_mem_cons.mpr ⟨⟨ck_X9_isBad, cw_X9_isBad⟩, List.forall_mem_cons.mpr ⟨⟨ck_X9_takes, cw_X9_takes⟩, List.forall_mem_cons.mpr ⟨⟨ck_X9_atFirst, cw_X9_atFirst⟩, List.forall_mem_cons.mpr ⟨⟨ck_X9_takesPoint, cw_X9_takesPoint⟩, List.forall_mem_cons.mpr ⟨⟨ck_X9_arcLine, cw_X9_arcLine⟩, List.forall_mem_cons.mpr ⟨⟨ck_X9_ruleBy, cw_X9_ruleBy⟩, List.forall_mem_cons.mpr ⟨⟨ck_X9_gridLine, cw_X9_gridLine⟩, List.forall_mem_cons.mpr ⟨⟨ck_X9_orderLine, cw_X9_orderLine⟩, List.forall_mem_cons.mpr ⟨⟨ck_X9_allLines, cw_X9_allLines⟩, List.forall_mem_cons.mpr ⟨⟨ck_X9_missing, cw_X9_missing⟩, List.forall_mem_cons.mpr ⟨⟨ck_X9_isFaulty, cw_X9_isFaulty⟩, List.forall_mem_cons.mpr ⟨⟨ck_X9_taken, cw_X9_taken⟩, List.forall_mem_cons.mpr ⟨⟨ck_X9_lay, cw_X9_lay⟩, fun _ h => absurd h List.not_mem_nil⟩⟩⟩⟩⟩⟩⟩⟩⟩⟩⟩⟩⟩⟩⟩⟩⟩⟩⟩⟩⟩⟩⟩⟩⟩
def tf_al1 : List tf_Row := [(yX9_fault, some .int, 7, 1, 7, cX9_fault, 2, tb_X9_fault), (yX9_root, some .int, 7, 0, 7, cX9_root, 1, tb_X9_root), (yX9_isLoan, some .boolean, 99, 1, 7, cX9_isLoan, 1, tb_X9_isLoan), (yX9_hangs, some .boolean, 7, 1, 7, cX9_hangs, 2, tb_X9_hangs), (yX9_settles, none, 7, 4, 7, cX9_settles, 5, tb_X9_settles), (yX9_laysTree, none, 7, 0, 7, cX9_laysTree, 5, tb_X9_laysTree), (yX9_reduced, some .int, 7, 1, 7, cX9_reduced, 2, tb_X9_reduced), (yX9_offers, some .boolean, 7, 1, 7, cX9_offers, 3, tb_X9_offers), (yX9_isBest, some .boolean, 7, 0, 7, cX9_isBest, 1, tb_X9_isBest), (yX9_offerMany, some .int, 7, 0, 7, cX9_offerMany, 3, tb_X9_offerMany), (yX9_farOf, some .int, 7, 1, 7, cX9_farOf, 3, tb_X9_farOf), (yX9_enters, some .int, 7, 0, 7, cX9_enters, 5, tb_X9_enters), (yX9_isAlong, some .boolean, 7, 2, 7, cX9_isAlong, 3, tb_X9_isAlong), (yX9_addsStep, none, 7, 2, 7, cX9_addsStep, 3, tb_X9_addsStep), (yX9_meets, some .int, 7, 2, 7, cX9_meets, 5, tb_X9_meets), (yX9_goesDown, none, 7, 2, 7, cX9_goesDown, 7, tb_X9_goesDown), (yX9_goesUp, none, 7, 2, 7, cX9_goesUp, 4, tb_X9_goesUp), (yX9_roomOf, some .int, 7, 1, 7, cX9_roomOf, 3, tb_X9_roomOf), (yX9_leastRoom, some .int, 7, 0, 7, cX9_leastRoom, 3, tb_X9_leastRoom), (yX9_laysCycle, none, 7, 1, 7, cX9_laysCycle, 5, tb_X9_laysCycle), (yX9_leaves, some .int, 7, 1, 7, cX9_leaves, 4, tb_X9_leaves), (yX9_flows, none, 7, 1, 7, cX9_flows, 5, tb_X9_flows), (yX9_goesOut, none, 7, 1, 7, cX9_goesOut, 2, tb_X9_goesOut), (yX9_isPast, none, 7, 3, 7, cX9_isPast, 5, tb_X9_isPast), (yX9_turns, some .int, 7, 0, 7, cX9_turns, 4, tb_X9_turns)]
theorem tf_al1_ok : ∀ q ∈ tf_al1, tf_RowOk q := List.forall_mem_cons.mpr ⟨⟨ck_X9_fault, cw_X9_fault⟩, List.forall_mem_cons.mpr ⟨⟨ck_X9_root, cw_X9_root⟩, List.forall_mem_cons.mpr ⟨⟨ck_X9_isLoan, cw_X9_isLoan⟩, List.forall_mem_cons.mpr ⟨⟨ck_X9_hangs, cw_X9_hangs⟩, List.forall_mem_cons.mpr ⟨⟨ck_X9_settles, cw_X9_settles⟩, List.forall_mem_cons.mpr ⟨⟨ck_X9_laysTree, cw_X9_laysTree⟩, List.forall_mem_cons.mpr ⟨⟨ck_X9_reduced, cw_X9_reduced⟩, List.forall_mem_cons.mpr ⟨⟨ck_X9_offers, cw_X9_offers⟩, List.forall_mem_cons.mpr ⟨⟨ck_X9_isBest, cw_X9_isBest⟩, List.forall_mem_cons.mpr ⟨⟨ck_X9_offerMany, cw_X9_offerMany⟩, List.forall_mem_cons.mpr ⟨⟨ck_X9_farOf, cw_X9_farOf⟩, List.forall_mem_cons.mpr ⟨⟨ck_X9_enters, cw_X9_enters⟩, List.forall_mem_cons.mpr ⟨⟨ck_X9_isAlong, cw_X9_isAlong⟩, List.forall_mem_cons.mpr ⟨⟨ck_X9_addsStep, cw_X9_addsStep⟩, List.forall_mem_cons.mpr ⟨⟨ck_X9_meets, cw_X9_meets⟩, List.forall_mem_cons.mpr ⟨⟨ck_X9_goesDown, cw_X9_goesDown⟩, List.forall_mem_cons.mpr ⟨⟨ck_X9_goesUp, cw_X9_goesUp⟩, List.forall_mem_cons.mpr ⟨⟨ck_X9_roomOf, cw_X9_roomOf⟩, List.forall_mem_cons.mpr ⟨⟨ck_X9_leastRoom, cw_X9_leastRoom⟩, List.forall_mem_cons.mpr ⟨⟨ck_X9_laysCycle, cw_X9_laysCycle⟩, List.forall_mem_cons.mpr ⟨⟨ck_X9_leaves, cw_X9_leaves⟩, List.forall_mem_cons.mpr ⟨⟨ck_X9_flows, cw_X9_flows⟩, List.forall_mem_cons.mpr ⟨⟨ck_X9_goesOut, cw_X9_goesOut⟩, List.forall_mem_cons.mpr ⟨⟨ck_X9_isPast, cw_X9_isPast⟩, List.forall_mem_cons.mpr ⟨⟨ck_X9_turns, cw_X9_turns⟩, fun _ h => absurd h List.not_mem_nil⟩⟩⟩⟩⟩⟩⟩⟩⟩⟩⟩⟩⟩⟩⟩⟩⟩⟩⟩⟩⟩⟩⟩⟩⟩
def tf_al2 : List tf_Row := [(yX9_pivotsTill, some .int, 7, 1, 7, cX9_pivotsTill, 3, tb_X9_pivotsTill), (yX9_begins, none, 7, 1, 7, cX9_begins, 5, tb_X9_begins), (yX9_beginsAgain, none, 7, 1, 7, cX9_beginsAgain, 2, tb_X9_beginsAgain), (yX9_keeps, none, 7, 1, 7, cX9_keeps, 3, tb_X9_keeps), (yX9_pivot, some .int, 7, 0, 7, cX9_pivot, 1, tb_X9_pivot), (yX9_pivots, some .int, 7, 1, 7, cX9_pivots, 2, tb_X9_pivots), (yX9_rule, some .boolean, 7, 1, 7, cX9_rule, 2, tb_X9_rule), (yX9_canShift, some .boolean, 7, 3, 7, cX9_canShift, 4, tb_X9_canShift), (yX9_shifts, none, 7, 3, 7, cX9_shifts, 4, tb_X9_shifts), (yX9_shift, some .boolean, 7, 3, 7, cX9_shift, 4, tb_X9_shift), (yX9_canBe, some .boolean, 7, 4, 7, cX9_canBe, 5, tb_X9_canBe), (yX9_becomes, none, 7, 3, 7, cX9_becomes, 4, tb_X9_becomes), (yX9_tells, some .boolean, 7, 4, 7, cX9_tells, 5, tb_X9_tells), (yX9_block, some .boolean, 7, 2, 7, cX9_block, 3, tb_X9_block), (yX9_widen, some .boolean, 7, 2, 7, cX9_widen, 3, tb_X9_widen), (yX9_charge, some .boolean, 7, 2, 7, cX9_charge, 3, tb_X9_charge), (yX9_cold, none, 7, 0, 7, cX9_cold, 1, tb_X9_cold), (yX9_isDoneArc, some .boolean, 7, 4, 7, cX9_isDoneArc, 6, tb_X9_isDoneArc), (yX9_isDone, some .boolean, 7, 4, 7, cX9_isDone, 7, tb_X9_isDone), (yX9_work, some .int, 7, 0, 7, cX9_work, 3, tb_X9_work), (yX9_undo, some .int, 7, 0, 7, cX9_undo, 2, tb_X9_undo), (yX9_unmet, some .int, 7, 0, 7, cX9_unmet, 3, tb_X9_unmet), (yX9_grid, some .int, 7, 1, 7, cX9_grid, 2, tb_X9_grid), (yX9_arc, some .int, 7, 2, 7, cX9_arc, 3, tb_X9_arc), (yX9_below, some .int, 7, 1, 7, cX9_below, 5, tb_X9_below)]
theorem tf_al2_ok : ∀ q ∈ tf_al2, tf_RowOk q := List.forall_mem_cons.mpr ⟨⟨ck_X9_pivotsTill, cw_X9_pivotsTill⟩, List.forall_mem_cons.mpr ⟨⟨ck_X9_begins, cw_X9_begins⟩, List.forall_mem_cons.mpr ⟨⟨ck_X9_beginsAgain, cw_X9_beginsAgain⟩, List.forall_mem_cons.mpr ⟨⟨ck_X9_keeps, cw_X9_keeps⟩, List.forall_mem_cons.mpr ⟨⟨ck_X9_pivot, cw_X9_pivot⟩, List.forall_mem_cons.mpr ⟨⟨ck_X9_pivots, cw_X9_pivots⟩, List.forall_mem_cons.mpr ⟨⟨ck_X9_rule, cw_X9_rule⟩, List.forall_mem_cons.mpr ⟨⟨ck_X9_canShift, cw_X9_canShift⟩, List.forall_mem_cons.mpr ⟨⟨ck_X9_shifts, cw_X9_shifts⟩, List.forall_mem_cons.mpr ⟨⟨ck_X9_shift, cw_X9_shift⟩, List.forall_mem_cons.mpr ⟨⟨ck_X9_canBe, cw_X9_canBe⟩, List.forall_mem_cons.mpr ⟨⟨ck_X9_becomes, cw_X9_becomes⟩, List.forall_mem_cons.mpr ⟨⟨ck_X9_tells, cw_X9_tells⟩, List.forall_mem_cons.mpr ⟨⟨ck_X9_block, cw_X9_block⟩, List.forall_mem_cons.mpr ⟨⟨ck_X9_widen, cw_X9_widen⟩, List.forall_mem_cons.mpr ⟨⟨ck_X9_charge, cw_X9_charge⟩, List.forall_mem_cons.mpr ⟨⟨ck_X9_cold, cw_X9_cold⟩, List.forall_mem_cons.mpr ⟨⟨ck_X9_isDoneArc, cw_X9_isDoneArc⟩, List.forall_mem_cons.mpr ⟨⟨ck_X9_isDone, cw_X9_isDone⟩, List.forall_mem_cons.mpr ⟨⟨ck_X9_work, cw_X9_work⟩, List.forall_mem_cons.mpr ⟨⟨ck_X9_undo, cw_X9_undo⟩, List.forall_mem_cons.mpr ⟨⟨ck_X9_unmet, cw_X9_unmet⟩, List.forall_mem_cons.mpr ⟨⟨ck_X9_grid, cw_X9_grid⟩, List.forall_mem_cons.mpr ⟨⟨ck_X9_arc, cw_X9_arc⟩, List.forall_mem_cons.mpr ⟨⟨ck_X9_below, cw_X9_below⟩, fun _ h => absurd h List.not_mem_nil⟩⟩⟩⟩⟩⟩⟩⟩⟩⟩⟩⟩⟩⟩⟩⟩⟩⟩⟩⟩⟩⟩⟩⟩⟩
def tf_al3 : List tf_Row := [(yX9_point, some .int, 7, 2, 7, cX9_point, 3, tb_X9_point), (yX9_childOf, some .int, 7, 2, 7, cX9_childOf, 4, tb_X9_childOf), (yX9_thread, some .int, 7, 1, 7, cX9_thread, 5, tb_X9_thread), (yX9_costOfCycle, some .int, 7, 0, 7, cX9_costOfCycle, 4, tb_X9_costOfCycle), (yX9_path, some .int, 7, 3, 7, cX9_path, 5, tb_X9_path), (yX9_next, some .int, 7, 1, 7, cX9_next, 4, tb_X9_next), (yX9_past, some .int, 7, 2, 7, cX9_past, 3, tb_X9_past), (yX9_billed, some .int, 7, 0, 7, cX9_billed, 3, tb_X9_billed), (yX9_bill, some .int, 7, 1, 7, cX9_bill, 4, tb_X9_bill), (yX9_flowAt, some .int, 7, 1, 7, cX9_flowAt, 4, tb_X9_flowAt), (yX9_ledger, some .int, 7, 2, 7, cX9_ledger, 5, tb_X9_ledger), (yX9_wide, some .int, 7, 2, 7, cX9_wide, 6, tb_X9_wide), (yX9_outOf, some .int, 7, 1, 7, cX9_outOf, 3, tb_X9_outOf), (yX9_startOf, some .int, 7, 0, 7, cX9_startOf, 5, tb_X9_startOf), (yX9_stopAt, some .int, 7, 2, 7, cX9_stopAt, 4, tb_X9_stopAt), (yX9_goesTrip, some .boolean, 7, 0, 7, cX9_goesTrip, 7, tb_X9_goesTrip), (yX9_trip, some .int, 7, 2, 7, cX9_trip, 5, tb_X9_trip), (yX9_flowIn, some .int, 7, 2, 7, cX9_flowIn, 4, tb_X9_flowIn), (yX9_apart, some .int, 7, 1, 7, cX9_apart, 4, tb_X9_apart), (yX9_span, some .int, 7, 2, 7, cX9_span, 7, tb_X9_span), (yX9_asNow, none, 7, 0, 7, cX9_asNow, 2, tb_X9_asNow), (yX9_relaxes, some .boolean, 7, 2, 7, cX9_relaxes, 7, tb_X9_relaxes), (yX9_laysCheapest, none, 7, 0, 7, cX9_laysCheapest, 4, tb_X9_laysCheapest), (yX9_wanting, some .int, 7, 0, 7, cX9_wanting, 3, tb_X9_wanting), (yX9_backBy, some .int, 7, 1, 7, cX9_backBy, 2, tb_X9_backBy)]
theorem tf_al3_ok : ∀ q ∈ tf_al3, tf_RowOk q := List.forall_mem_cons.mpr ⟨⟨ck_X9_point, cw_X9_point⟩, List.forall_mem_cons.mpr ⟨⟨ck_X9_childOf, cw_X9_childOf⟩, List.forall_mem_cons.mpr ⟨⟨ck_X9_thread, cw_X9_thread⟩, List.forall_mem_cons.mpr ⟨⟨ck_X9_costOfCycle, cw_X9_costOfCycle⟩, List.forall_mem_cons.mpr ⟨⟨ck_X9_path, cw_X9_path⟩, List.forall_mem_cons.mpr ⟨⟨ck_X9_next, cw_X9_next⟩, List.forall_mem_cons.mpr ⟨⟨ck_X9_past, cw_X9_past⟩, List.forall_mem_cons.mpr ⟨⟨ck_X9_billed, cw_X9_billed⟩, List.forall_mem_cons.mpr ⟨⟨ck_X9_bill, cw_X9_bill⟩, List.forall_mem_cons.mpr ⟨⟨ck_X9_flowAt, cw_X9_flowAt⟩, List.forall_mem_cons.mpr ⟨⟨ck_X9_ledger, cw_X9_ledger⟩, List.forall_mem_cons.mpr ⟨⟨ck_X9_wide, cw_X9_wide⟩, List.forall_mem_cons.mpr ⟨⟨ck_X9_outOf, cw_X9_outOf⟩, List.forall_mem_cons.mpr ⟨⟨ck_X9_startOf, cw_X9_startOf⟩, List.forall_mem_cons.mpr ⟨⟨ck_X9_stopAt, cw_X9_stopAt⟩, List.forall_mem_cons.mpr ⟨⟨ck_X9_goesTrip, cw_X9_goesTrip⟩, List.forall_mem_cons.mpr ⟨⟨ck_X9_trip, cw_X9_trip⟩, List.forall_mem_cons.mpr ⟨⟨ck_X9_flowIn, cw_X9_flowIn⟩, List.forall_mem_cons.mpr ⟨⟨ck_X9_apart, cw_X9_apart⟩, List.forall_mem_cons.mpr ⟨⟨ck_X9_span, cw_X9_span⟩, List.forall_mem_cons.mpr ⟨⟨ck_X9_asNow, cw_X9_asNow⟩, List.forall_mem_cons.mpr ⟨⟨ck_X9_relaxes, cw_X9_relaxes⟩, List.forall_mem_cons.mpr ⟨⟨ck_X9_laysCheapest, cw_X9_laysCheapest⟩, List.forall_mem_cons.mpr ⟨⟨ck_X9_wanting, cw_X9_wanting⟩, List.forall_mem_cons.mpr ⟨⟨ck_X9_backBy, cw_X9_backBy⟩, fun _ h => absurd h List.not_mem_nil⟩⟩⟩⟩⟩⟩⟩⟩⟩⟩⟩⟩⟩⟩⟩⟩⟩⟩⟩⟩⟩⟩⟩⟩⟩
def tf_al4 : List tf_Row := [(yX9_sendsTo, none, 7, 1, 7, cX9_sendsTo, 5, tb_X9_sendsTo), (yX9_carries, some .boolean, 7, 0, 7, cX9_carries, 3, tb_X9_carries), (yX9_cheapestCost, some .int, 7, 0, 7, cX9_cheapestCost, 3, tb_X9_cheapestCost), (yX9_least, some .int, 7, 0, 7, cX9_least, 1, tb_X9_least), (yX9_lessThan, some .int, 7, 2, 7, cX9_lessThan, 3, tb_X9_lessThan), (yX9_worth, some .int, 7, 2, 7, cX9_worth, 4, tb_X9_worth), (yX9_toll, some .int, 7, 2, 7, cX9_toll, 4, tb_X9_toll), (yX9_bothOf, some .int, 7, 1, 7, cX9_bothOf, 5, tb_X9_bothOf), (yX9_ones, some .int, 99, 1, 7, cX9_ones, 3, tb_X9_ones), (yX9_cut, some .int, 7, 0, 7, cX9_cut, 4, tb_X9_cut), (yX9_lack, some .int, 7, 0, 7, cX9_lack, 3, tb_X9_lack), (yX9_steps, some .int, 7, 1, 7, cX9_steps, 3, tb_X9_steps), (yX9_copies, none, 7, 2, 7, cX9_copies, 4, tb_X9_copies), (yX9_copiesText, none, 7, 2, 7, cX9_copiesText, 4, tb_X9_copiesText), (yX9_image, some .boolean, 7, 1, 7, cX9_image, 2, tb_X9_image), (yX9_again, some .boolean, 7, 1, 7, cX9_again, 2, tb_X9_again), (yX1_copyFrom, none, 0, 1, 0, cX1_copyFrom, 2, tb_X1_copyFrom), (yX1_clear, none, 0, 1, 0, cX1_clear, 3, tb_X1_clear), (yX1_addArc, none, 0, 4, 0, cX1_addArc, 5, tb_X1_addArc), (yX1_hasArc, some .boolean, 0, 1, 0, cX1_hasArc, 2, tb_X1_hasArc), (yX1_hasPoint, some .boolean, 0, 1, 0, cX1_hasPoint, 2, tb_X1_hasPoint), (yX1_hasTwoPoints, some .boolean, 0, 2, 0, cX1_hasTwoPoints, 3, tb_X1_hasTwoPoints), (yX1_toldNode, some .int, 0, 1, 0, cX1_toldNode, 2, tb_X1_toldNode), (yX1_setRule, some .boolean, 0, 1, 0, cX1_setRule, 2, tb_X1_setRule), (yX1_moveSupply, some .boolean, 0, 3, 0, cX1_moveSupply, 4, tb_X1_moveSupply)]
theorem tf_al4_ok : ∀ q ∈ tf_al4, tf_RowOk q := List.forall_mem_cons.mpr ⟨⟨ck_X9_sendsTo, cw_X9_sendsTo⟩, List.forall_mem_cons.mpr ⟨⟨ck_X9_carries, cw_X9_carries⟩, List.forall_mem_cons.mpr ⟨⟨ck_X9_cheapestCost, cw_X9_cheapestCost⟩, List.forall_mem_cons.mpr ⟨⟨ck_X9_least, cw_X9_least⟩, List.forall_mem_cons.mpr ⟨⟨ck_X9_lessThan, cw_X9_lessThan⟩, List.forall_mem_cons.mpr ⟨⟨ck_X9_worth, cw_X9_worth⟩, List.forall_mem_cons.mpr ⟨⟨ck_X9_toll, cw_X9_toll⟩, List.forall_mem_cons.mpr ⟨⟨ck_X9_bothOf, cw_X9_bothOf⟩, List.forall_mem_cons.mpr ⟨⟨ck_X9_ones, cw_X9_ones⟩, List.forall_mem_cons.mpr ⟨⟨ck_X9_cut, cw_X9_cut⟩, List.forall_mem_cons.mpr ⟨⟨ck_X9_lack, cw_X9_lack⟩, List.forall_mem_cons.mpr ⟨⟨ck_X9_steps, cw_X9_steps⟩, List.forall_mem_cons.mpr ⟨⟨ck_X9_copies, cw_X9_copies⟩, List.forall_mem_cons.mpr ⟨⟨ck_X9_copiesText, cw_X9_copiesText⟩, List.forall_mem_cons.mpr ⟨⟨ck_X9_image, cw_X9_image⟩, List.forall_mem_cons.mpr ⟨⟨ck_X9_again, cw_X9_again⟩, List.forall_mem_cons.mpr ⟨⟨ck_X1_copyFrom, cw_X1_copyFrom⟩, List.forall_mem_cons.mpr ⟨⟨ck_X1_clear, cw_X1_clear⟩, List.forall_mem_cons.mpr ⟨⟨ck_X1_addArc, cw_X1_addArc⟩, List.forall_mem_cons.mpr ⟨⟨ck_X1_hasArc, cw_X1_hasArc⟩, List.forall_mem_cons.mpr ⟨⟨ck_X1_hasPoint, cw_X1_hasPoint⟩, List.forall_mem_cons.mpr ⟨⟨ck_X1_hasTwoPoints, cw_X1_hasTwoPoints⟩, List.forall_mem_cons.mpr ⟨⟨ck_X1_toldNode, cw_X1_toldNode⟩, List.forall_mem_cons.mpr ⟨⟨ck_X1_setRule, cw_X1_setRule⟩, List.forall_mem_cons.mpr ⟨⟨ck_X1_moveSupply, cw_X1_moveSupply⟩, fun _ h => absurd h List.not_mem_nil⟩⟩⟩⟩⟩⟩⟩⟩⟩⟩⟩⟩⟩⟩⟩⟩⟩⟩⟩⟩⟩⟩⟩⟩⟩
def tf_al5 : List tf_Row := [(yX1_setOpen, some .boolean, 0, 2, 0, cX1_setOpen, 3, tb_X1_setOpen), (yX1_setBound, some .boolean, 0, 2, 0, cX1_setBound, 3, tb_X1_setBound), (yX1_setCost, some .boolean, 0, 2, 0, cX1_setCost, 3, tb_X1_setCost), (yX1_begin, none, 0, 1, 0, cX1_begin, 4, tb_X1_begin), (yX1_hangByLoan, none, 0, 1, 0, cX1_hangByLoan, 4, tb_X1_hangByLoan), (yX1_setPrices, none, 0, 0, 0, cX1_setPrices, 6, tb_X1_setPrices), (yX1_reduced, some .int, 0, 1, 0, cX1_reduced, 2, tb_X1_reduced), (yX1_mayOffer, some .boolean, 0, 1, 0, cX1_mayOffer, 2, tb_X1_mayOffer), (yX1_offer, some .int, 0, 1, 0, cX1_offer, 2, tb_X1_offer), (yX1_countOffers, some .int, 0, 0, 0, cX1_countOffers, 3, tb_X1_countOffers), (yX1_pick, some .int, 0, 1, 0, cX1_pick, 8, tb_X1_pick), (yX1_room, some .int, 0, 2, 0, cX1_room, 3, tb_X1_room), (yX1_hasOnWay, some .boolean, 0, 2, 0, cX1_hasOnWay, 5, tb_X1_hasOnWay), (yX1_depth, some .int, 0, 1, 0, cX1_depth, 4, tb_X1_depth), (yX1_countBelow, some .int, 0, 1, 0, cX1_countBelow, 4, tb_X1_countBelow), (yX1_loanFlow, some .int, 0, 1, 0, cX1_loanFlow, 3, tb_X1_loanFlow), (yX1_childBehind, some .int, 0, 2, 0, cX1_childBehind, 4, tb_X1_childBehind), (yX1_threadBehind, some .int, 0, 1, 0, cX1_threadBehind, 5, tb_X1_threadBehind), (yX1_rehang, none, 0, 4, 0, cX1_rehang, 11, tb_X1_rehang), (yX1_unmet, some .int, 0, 0, 0, cX1_unmet, 3, tb_X1_unmet), (yX1_spent, some .int, 0, 0, 0, cX1_spent, 3, tb_X1_spent), (yX1_flowingCostAbove, some .int, 0, 1, 0, cX1_flowingCostAbove, 4, tb_X1_flowingCostAbove), (yX1_flowAtCost, some .int, 0, 1, 0, cX1_flowAtCost, 4, tb_X1_flowAtCost), (yX1_countApart, some .int, 0, 1, 0, cX1_countApart, 6, tb_X1_countApart), (yX1_spread, none, 0, 1, 0, cX1_spread, 5, tb_X1_spread)]
theorem tf_al5_ok : ∀ q ∈ tf_al5, tf_RowOk q := List.forall_mem_cons.mpr ⟨⟨ck_X1_setOpen, cw_X1_setOpen⟩, List.forall_mem_cons.mpr ⟨⟨ck_X1_setBound, cw_X1_setBound⟩, List.forall_mem_cons.mpr ⟨⟨ck_X1_setCost, cw_X1_setCost⟩, List.forall_mem_cons.mpr ⟨⟨ck_X1_begin, cw_X1_begin⟩, List.forall_mem_cons.mpr ⟨⟨ck_X1_hangByLoan, cw_X1_hangByLoan⟩, List.forall_mem_cons.mpr ⟨⟨ck_X1_setPrices, cw_X1_setPrices⟩, List.forall_mem_cons.mpr ⟨⟨ck_X1_reduced, cw_X1_reduced⟩, List.forall_mem_cons.mpr ⟨⟨ck_X1_mayOffer, cw_X1_mayOffer⟩, List.forall_mem_cons.mpr ⟨⟨ck_X1_offer, cw_X1_offer⟩, List.forall_mem_cons.mpr ⟨⟨ck_X1_countOffers, cw_X1_countOffers⟩, List.forall_mem_cons.mpr ⟨⟨ck_X1_pick, cw_X1_pick⟩, List.forall_mem_cons.mpr ⟨⟨ck_X1_room, cw_X1_room⟩, List.forall_mem_cons.mpr ⟨⟨ck_X1_hasOnWay, cw_X1_hasOnWay⟩, List.forall_mem_cons.mpr ⟨⟨ck_X1_depth, cw_X1_depth⟩, List.forall_mem_cons.mpr ⟨⟨ck_X1_countBelow, cw_X1_countBelow⟩, List.forall_mem_cons.mpr ⟨⟨ck_X1_loanFlow, cw_X1_loanFlow⟩, List.forall_mem_cons.mpr ⟨⟨ck_X1_childBehind, cw_X1_childBehind⟩, List.forall_mem_cons.mpr ⟨⟨ck_X1_threadBehind, cw_X1_threadBehind⟩, List.forall_mem_cons.mpr ⟨⟨ck_X1_rehang, cw_X1_rehang⟩, List.forall_mem_cons.mpr ⟨⟨ck_X1_unmet, cw_X1_unmet⟩, List.forall_mem_cons.mpr ⟨⟨ck_X1_spent, cw_X1_spent⟩, List.forall_mem_cons.mpr ⟨⟨ck_X1_flowingCostAbove, cw_X1_flowingCostAbove⟩, List.forall_mem_cons.mpr ⟨⟨ck_X1_flowAtCost, cw_X1_flowAtCost⟩, List.forall_mem_cons.mpr ⟨⟨ck_X1_countApart, cw_X1_countApart⟩, List.forall_mem_cons.mpr ⟨⟨ck_X1_spread, cw_X1_spread⟩, fun _ h => absurd h List.not_mem_nil⟩⟩⟩⟩⟩⟩⟩⟩⟩⟩⟩⟩⟩⟩⟩⟩⟩⟩⟩⟩⟩⟩⟩⟩⟩
def tf_al6 : List tf_Row := [(yX1_shortOf, some .int, 0, 1, 0, cX1_shortOf, 4, tb_X1_shortOf), (yX1_worstSet, some .int, 0, 0, 0, cX1_worstSet, 6, tb_X1_worstSet), (yX1_lowestCost, some .int, 0, 1, 0, cX1_lowestCost, 5, tb_X1_lowestCost), (yX1_highestCost, some .int, 0, 1, 0, cX1_highestCost, 5, tb_X1_highestCost), (yX1_slope, some .int, 0, 2, 0, cX1_slope, 7, tb_X1_slope), (yX2_put, none, 1, 1, 1, cX2_put, 2, tb_X2_put), (yX2_copyFrom, none, 1, 1, 1, cX2_copyFrom, 2, tb_X2_copyFrom), (yX3_way, none, 2, 3, 2, cX3_way, 4, tb_X3_way), (yX3_cycle, none, 2, 2, 2, cX3_cycle, 7, tb_X3_cycle), (yX3_step, some .int, 2, 2, 2, cX3_step, 5, tb_X3_step), (yX3_run, some .int, 2, 3, 2, cX3_run, 5, tb_X3_run), (yX3_leaving, some .int, 2, 0, 2, cX3_leaving, 1, tb_X3_leaving), (yX3_leastRoom, some .int, 2, 1, 2, cX3_leastRoom, 4, tb_X3_leastRoom), (yX3_cost, some .int, 2, 1, 2, cX3_cost, 4, tb_X3_cost), (yX3_told, some .int, 2, 2, 2, cX3_told, 3, tb_X3_told), (yX3_exchange, none, 2, 3, 2, cX3_exchange, 6, tb_X3_exchange), (yX3_meeting, some .int, 99, 3, 2, cX3_meeting, 5, tb_X3_meeting), (yX3_climb, none, 2, 2, 2, cX3_climb, 6, tb_X3_climb), (yX3_descend, none, 2, 2, 2, cX3_descend, 6, tb_X3_descend), (yX3_add, none, 2, 2, 2, cX3_add, 3, tb_X3_add), (yX5_clear, none, 4, 0, 4, cX5_clear, 1, tb_X5_clear), (yX5_copyFrom, none, 4, 1, 4, cX5_copyFrom, 2, tb_X5_copyFrom), (yX5_count, none, 4, 3, 4, cX5_count, 5, tb_X5_count), (yX5_told, some .int, 4, 2, 4, cX5_told, 4, tb_X5_told), (yX6_split, none, 5, 1, 5, cX6_split, 4, tb_X6_split)]
theorem tf_al6_ok : ∀ q ∈ tf_al6, tf_RowOk q := List.forall_mem_cons.mpr ⟨⟨ck_X1_shortOf, cw_X1_shortOf⟩, List.forall_mem_cons.mpr ⟨⟨ck_X1_worstSet, cw_X1_worstSet⟩, List.forall_mem_cons.mpr ⟨⟨ck_X1_lowestCost, cw_X1_lowestCost⟩, List.forall_mem_cons.mpr ⟨⟨ck_X1_highestCost, cw_X1_highestCost⟩, List.forall_mem_cons.mpr ⟨⟨ck_X1_slope, cw_X1_slope⟩, List.forall_mem_cons.mpr ⟨⟨ck_X2_put, cw_X2_put⟩, List.forall_mem_cons.mpr ⟨⟨ck_X2_copyFrom, cw_X2_copyFrom⟩, List.forall_mem_cons.mpr ⟨⟨ck_X3_way, cw_X3_way⟩, List.forall_mem_cons.mpr ⟨⟨ck_X3_cycle, cw_X3_cycle⟩, List.forall_mem_cons.mpr ⟨⟨ck_X3_step, cw_X3_step⟩, List.forall_mem_cons.mpr ⟨⟨ck_X3_run, cw_X3_run⟩, List.forall_mem_cons.mpr ⟨⟨ck_X3_leaving, cw_X3_leaving⟩, List.forall_mem_cons.mpr ⟨⟨ck_X3_leastRoom, cw_X3_leastRoom⟩, List.forall_mem_cons.mpr ⟨⟨ck_X3_cost, cw_X3_cost⟩, List.forall_mem_cons.mpr ⟨⟨ck_X3_told, cw_X3_told⟩, List.forall_mem_cons.mpr ⟨⟨ck_X3_exchange, cw_X3_exchange⟩, List.forall_mem_cons.mpr ⟨⟨ck_X3_meeting, cw_X3_meeting⟩, List.forall_mem_cons.mpr ⟨⟨ck_X3_climb, cw_X3_climb⟩, List.forall_mem_cons.mpr ⟨⟨ck_X3_descend, cw_X3_descend⟩, List.forall_mem_cons.mpr ⟨⟨ck_X3_add, cw_X3_add⟩, List.forall_mem_cons.mpr ⟨⟨ck_X5_clear, cw_X5_clear⟩, List.forall_mem_cons.mpr ⟨⟨ck_X5_copyFrom, cw_X5_copyFrom⟩, List.forall_mem_cons.mpr ⟨⟨ck_X5_count, cw_X5_count⟩, List.forall_mem_cons.mpr ⟨⟨ck_X5_told, cw_X5_told⟩, List.forall_mem_cons.mpr ⟨⟨ck_X6_split, cw_X6_split⟩, fun _ h => absurd h List.not_mem_nil⟩⟩⟩⟩⟩⟩⟩⟩⟩⟩⟩⟩⟩⟩⟩⟩⟩⟩⟩⟩⟩⟩⟩⟩⟩
def tf_al7 : List tf_Row := [(yX6_told, some .int, 5, 2, 5, cX6_told, 3, tb_X6_told), (yX6_start, some .int, 5, 1, 5, cX6_start, 3, tb_X6_start), (yX6_surplus, some .int, 5, 2, 5, cX6_surplus, 5, tb_X6_surplus), (yX6_arcOut, some .int, 5, 2, 5, cX6_arcOut, 4, tb_X6_arcOut), (yX6_go, none, 5, 2, 5, cX6_go, 5, tb_X6_go), (yX6_keep, none, 5, 0, 5, cX6_keep, 3, tb_X6_keep), (yX8_spell, some .int, 6, 1, 6, cX8_spell, 5, tb_X8_spell), (yX8_lay, some .int, 6, 0, 6, cX8_lay, 1, tb_X8_lay), (yX8_fault, some .int, 6, 1, 6, cX8_fault, 2, tb_X8_fault), (yX8_pivot, some .int, 6, 0, 6, cX8_pivot, 2, tb_X8_pivot), (yX8_pivots, some .int, 6, 1, 6, cX8_pivots, 3, tb_X8_pivots), (yX8_rule, some .boolean, 6, 1, 6, cX8_rule, 2, tb_X8_rule), (yX8_shift, some .boolean, 6, 3, 6, cX8_shift, 4, tb_X8_shift), (yX8_block, some .boolean, 6, 2, 6, cX8_block, 3, tb_X8_block), (yX8_widen, some .boolean, 6, 2, 6, cX8_widen, 3, tb_X8_widen), (yX8_charge, some .boolean, 6, 2, 6, cX8_charge, 3, tb_X8_charge), (yX8_cold, none, 6, 0, 6, cX8_cold, 1, tb_X8_cold), (yX8_work, some .int, 6, 0, 6, cX8_work, 2, tb_X8_work), (yX8_undo, some .int, 6, 0, 6, cX8_undo, 1, tb_X8_undo), (yX8_grid, some .int, 6, 1, 6, cX8_grid, 2, tb_X8_grid), (yX8_thread, some .int, 6, 1, 6, cX8_thread, 4, tb_X8_thread), (yX8_path, some .int, 6, 3, 6, cX8_path, 5, tb_X8_path), (yX8_next, some .int, 6, 1, 6, cX8_next, 3, tb_X8_next), (yX8_past, some .int, 6, 2, 6, cX8_past, 3, tb_X8_past), (yX8_bill, some .int, 6, 1, 6, cX8_bill, 4, tb_X8_bill)]
theorem tf_al7_ok : ∀ q ∈ tf_al7, tf_RowOk q := List.forall_mem_cons.mpr ⟨⟨ck_X6_told, cw_X6_told⟩, List.forall_mem_cons.mpr ⟨⟨ck_X6_start, cw_X6_start⟩, List.forall_mem_cons.mpr ⟨⟨ck_X6_surplus, cw_X6_surplus⟩, List.forall_mem_cons.mpr ⟨⟨ck_X6_arcOut, cw_X6_arcOut⟩, List.forall_mem_cons.mpr ⟨⟨ck_X6_go, cw_X6_go⟩, List.forall_mem_cons.mpr ⟨⟨ck_X6_keep, cw_X6_keep⟩, List.forall_mem_cons.mpr ⟨⟨ck_X8_spell, cw_X8_spell⟩, List.forall_mem_cons.mpr ⟨⟨ck_X8_lay, cw_X8_lay⟩, List.forall_mem_cons.mpr ⟨⟨ck_X8_fault, cw_X8_fault⟩, List.forall_mem_cons.mpr ⟨⟨ck_X8_pivot, cw_X8_pivot⟩, List.forall_mem_cons.mpr ⟨⟨ck_X8_pivots, cw_X8_pivots⟩, List.forall_mem_cons.mpr ⟨⟨ck_X8_rule, cw_X8_rule⟩, List.forall_mem_cons.mpr ⟨⟨ck_X8_shift, cw_X8_shift⟩, List.forall_mem_cons.mpr ⟨⟨ck_X8_block, cw_X8_block⟩, List.forall_mem_cons.mpr ⟨⟨ck_X8_widen, cw_X8_widen⟩, List.forall_mem_cons.mpr ⟨⟨ck_X8_charge, cw_X8_charge⟩, List.forall_mem_cons.mpr ⟨⟨ck_X8_cold, cw_X8_cold⟩, List.forall_mem_cons.mpr ⟨⟨ck_X8_work, cw_X8_work⟩, List.forall_mem_cons.mpr ⟨⟨ck_X8_undo, cw_X8_undo⟩, List.forall_mem_cons.mpr ⟨⟨ck_X8_grid, cw_X8_grid⟩, List.forall_mem_cons.mpr ⟨⟨ck_X8_thread, cw_X8_thread⟩, List.forall_mem_cons.mpr ⟨⟨ck_X8_path, cw_X8_path⟩, List.forall_mem_cons.mpr ⟨⟨ck_X8_next, cw_X8_next⟩, List.forall_mem_cons.mpr ⟨⟨ck_X8_past, cw_X8_past⟩, List.forall_mem_cons.mpr ⟨⟨ck_X8_bill, cw_X8_bill⟩, fun _ h => absurd h List.not_mem_nil⟩⟩⟩⟩⟩⟩⟩⟩⟩⟩⟩⟩⟩⟩⟩⟩⟩⟩⟩⟩⟩⟩⟩⟩⟩
def tf_al8 : List tf_Row := [(yX8_ledger, some .int, 6, 2, 6, cX8_ledger, 5, tb_X8_ledger), (yX8_wide, some .int, 6, 2, 6, cX8_wide, 4, tb_X8_wide), (yX8_trip, some .int, 6, 2, 6, cX8_trip, 3, tb_X8_trip), (yX8_apart, some .int, 6, 1, 6, cX8_apart, 2, tb_X8_apart), (yX8_span, some .int, 6, 2, 6, cX8_span, 3, tb_X8_span), (yX8_least, some .int, 6, 0, 6, cX8_least, 1, tb_X8_least), (yX8_lack, some .int, 6, 0, 6, cX8_lack, 1, tb_X8_lack), (yX8_cut, some .int, 6, 0, 6, cX8_cut, 1, tb_X8_cut), (yX8_steps, some .int, 6, 1, 6, cX8_steps, 2, tb_X8_steps), (yX8_worth, some .int, 6, 2, 6, cX8_worth, 4, tb_X8_worth), (yX8_toll, some .int, 6, 2, 6, cX8_toll, 4, tb_X8_toll), (yX8_image, some .boolean, 6, 1, 6, cX8_image, 2, tb_X8_image), (yX8_again, some .boolean, 6, 1, 6, cX8_again, 2, tb_X8_again), (yX8_hasImage, some .boolean, 6, 1, 6, cX8_hasImage, 2, tb_X8_hasImage), (yX8_takeFault, none, 6, 0, 6, cX8_takeFault, 1, tb_X8_takeFault), (yX8_saveAhead, none, 6, 0, 6, cX8_saveAhead, 1, tb_X8_saveAhead), (yX8_countAct, some .boolean, 6, 1, 6, cX8_countAct, 2, tb_X8_countAct), (yX8_leastOfTrial, some .int, 6, 0, 6, cX8_leastOfTrial, 1, tb_X8_leastOfTrial), (yX8_less, some .int, 99, 2, 6, cX8_less, 2, tb_X8_less), (yX8_byteOf, some .int, 99, 2, 6, cX8_byteOf, 3, tb_X8_byteOf), (yX8_toldEdge, some .int, 99, 1, 6, cX8_toldEdge, 1, tb_X8_toldEdge), (yX8_isRule, some .boolean, 99, 1, 6, cX8_isRule, 1, tb_X8_isRule), (yX4_read, none, 3, 2, 3, cX4_read, 5, tb_X4_read), (yX4_readLine, some .boolean, 3, 2, 3, cX4_readLine, 6, tb_X4_readLine), (yX4_blame, none, 3, 2, 3, cX4_blame, 3, tb_X4_blame)]
theorem tf_al8_ok : ∀ q ∈ tf_al8, tf_RowOk q := List.forall_mem_cons.mpr ⟨⟨ck_X8_ledger, cw_X8_ledger⟩, List.forall_mem_cons.mpr ⟨⟨ck_X8_wide, cw_X8_wide⟩, List.forall_mem_cons.mpr ⟨⟨ck_X8_trip, cw_X8_trip⟩, List.forall_mem_cons.mpr ⟨⟨ck_X8_apart, cw_X8_apart⟩, List.forall_mem_cons.mpr ⟨⟨ck_X8_span, cw_X8_span⟩, List.forall_mem_cons.mpr ⟨⟨ck_X8_least, cw_X8_least⟩, List.forall_mem_cons.mpr ⟨⟨ck_X8_lack, cw_X8_lack⟩, List.forall_mem_cons.mpr ⟨⟨ck_X8_cut, cw_X8_cut⟩, List.forall_mem_cons.mpr ⟨⟨ck_X8_steps, cw_X8_steps⟩, List.forall_mem_cons.mpr ⟨⟨ck_X8_worth, cw_X8_worth⟩, List.forall_mem_cons.mpr ⟨⟨ck_X8_toll, cw_X8_toll⟩, List.forall_mem_cons.mpr ⟨⟨ck_X8_image, cw_X8_image⟩, List.forall_mem_cons.mpr ⟨⟨ck_X8_again, cw_X8_again⟩, List.forall_mem_cons.mpr ⟨⟨ck_X8_hasImage, cw_X8_hasImage⟩, List.forall_mem_cons.mpr ⟨⟨ck_X8_takeFault, cw_X8_takeFault⟩, List.forall_mem_cons.mpr ⟨⟨ck_X8_saveAhead, cw_X8_saveAhead⟩, List.forall_mem_cons.mpr ⟨⟨ck_X8_countAct, cw_X8_countAct⟩, List.forall_mem_cons.mpr ⟨⟨ck_X8_leastOfTrial, cw_X8_leastOfTrial⟩, List.forall_mem_cons.mpr ⟨⟨ck_X8_less, cw_X8_less⟩, List.forall_mem_cons.mpr ⟨⟨ck_X8_byteOf, cw_X8_byteOf⟩, List.forall_mem_cons.mpr ⟨⟨ck_X8_toldEdge, cw_X8_toldEdge⟩, List.forall_mem_cons.mpr ⟨⟨ck_X8_isRule, cw_X8_isRule⟩, List.forall_mem_cons.mpr ⟨⟨ck_X4_read, cw_X4_read⟩, List.forall_mem_cons.mpr ⟨⟨ck_X4_readLine, cw_X4_readLine⟩, List.forall_mem_cons.mpr ⟨⟨ck_X4_blame, cw_X4_blame⟩, fun _ h => absurd h List.not_mem_nil⟩⟩⟩⟩⟩⟩⟩⟩⟩⟩⟩⟩⟩⟩⟩⟩⟩⟩⟩⟩⟩⟩⟩⟩⟩
def tf_al9 : List tf_Row := [(yX4_findToken, none, 3, 1, 3, cX4_findToken, 4, tb_X4_findToken), (yX4_kindOf, some .int, 99, 1, 3, cX4_kindOf, 1, tb_X4_kindOf), (yX4_verbHere, some (.object "TreeFlows$Verb"), 3, 2, 3, cX4_verbHere, 5, tb_X4_verbHere), (yX4_isHere, some .boolean, 3, 2, 3, cX4_isHere, 4, tb_X4_isHere), (yX4_numberHere, some .int, 3, 1, 3, cX4_numberHere, 4, tb_X4_numberHere), (yX4_number, some .int, 3, 2, 3, cX4_number, 3, tb_X4_number), (yX4_want, none, 3, 5, 3, cX4_want, 7, tb_X4_want), (yX4_checkGrid, none, 3, 1, 3, cX4_checkGrid, 4, tb_X4_checkGrid), (yX4_checkGridLine, none, 3, 2, 3, cX4_checkGridLine, 3, tb_X4_checkGridLine), (yX4_checkPointsThere, none, 3, 0, 3, cX4_checkPointsThere, 3, tb_X4_checkPointsThere), (yX4_isArc, some .boolean, 3, 1, 3, cX4_isArc, 2, tb_X4_isArc), (yX4_pointsTold, some .int, 3, 0, 3, cX4_pointsTold, 3, tb_X4_pointsTold), (yX4_sumOfSupplies, some .int, 3, 0, 3, cX4_sumOfSupplies, 3, tb_X4_sumOfSupplies), (yX4_checkOrders, none, 3, 0, 3, cX4_checkOrders, 2, tb_X4_checkOrders), (yX4_fill, none, 3, 1, 3, cX4_fill, 3, tb_X4_fill), (yX4_fillLine, none, 3, 2, 3, cX4_fillLine, 3, tb_X4_fillLine), (yX4_obey, some .boolean, 3, 3, 3, cX4_obey, 4, tb_X4_obey), (yX7_numbers, some .int, 98, 1, 8, cX7_numbers, 2, tb_X7_numbers), (yJ6_bitCount_0f7a4, some .int, 99, 1, 9, cJ6_bitCount_0f7a4, 1, tb_J6_bitCount_0f7a4)]
theorem tf_al9_ok : ∀ q ∈ tf_al9, tf_RowOk q := List.forall_mem_cons.mpr ⟨⟨ck_X4_findToken, cw_X4_findToken⟩, List.forall_mem_cons.mpr ⟨⟨ck_X4_kindOf, cw_X4_kindOf⟩, List.forall_mem_cons.mpr ⟨⟨ck_X4_verbHere, cw_X4_verbHere⟩, List.forall_mem_cons.mpr ⟨⟨ck_X4_isHere, cw_X4_isHere⟩, List.forall_mem_cons.mpr ⟨⟨ck_X4_numberHere, cw_X4_numberHere⟩, List.forall_mem_cons.mpr ⟨⟨ck_X4_number, cw_X4_number⟩, List.forall_mem_cons.mpr ⟨⟨ck_X4_want, cw_X4_want⟩, List.forall_mem_cons.mpr ⟨⟨ck_X4_checkGrid, cw_X4_checkGrid⟩, List.forall_mem_cons.mpr ⟨⟨ck_X4_checkGridLine, cw_X4_checkGridLine⟩, List.forall_mem_cons.mpr ⟨⟨ck_X4_checkPointsThere, cw_X4_checkPointsThere⟩, List.forall_mem_cons.mpr ⟨⟨ck_X4_isArc, cw_X4_isArc⟩, List.forall_mem_cons.mpr ⟨⟨ck_X4_pointsTold, cw_X4_pointsTold⟩, List.forall_mem_cons.mpr ⟨⟨ck_X4_sumOfSupplies, cw_X4_sumOfSupplies⟩, List.forall_mem_cons.mpr ⟨⟨ck_X4_checkOrders, cw_X4_checkOrders⟩, List.forall_mem_cons.mpr ⟨⟨ck_X4_fill, cw_X4_fill⟩, List.forall_mem_cons.mpr ⟨⟨ck_X4_fillLine, cw_X4_fillLine⟩, List.forall_mem_cons.mpr ⟨⟨ck_X4_obey, cw_X4_obey⟩, List.forall_mem_cons.mpr ⟨⟨ck_X7_numbers, cw_X7_numbers⟩, List.forall_mem_cons.mpr ⟨⟨ck_J6_bitCount_0f7a4, cw_J6_bitCount_0f7a4⟩, fun _ h => absurd h List.not_mem_nil⟩⟩⟩⟩⟩⟩⟩⟩⟩⟩⟩⟩⟩⟩⟩⟩⟩⟩⟩
def tf_all : List tf_Row := tf_al0 ++ (tf_al1 ++ (tf_al2 ++ (tf_al3 ++ (tf_al4 ++ (tf_al5 ++ (tf_al6 ++ (tf_al7 ++ (tf_al8 ++ (tf_al9)))))))))
theorem tf_all_ok : ∀ q ∈ tf_all, tf_RowOk q := List.forall_mem_append.mpr ⟨tf_al0_ok, List.forall_mem_append.mpr ⟨tf_al1_ok, List.forall_mem_append.mpr ⟨tf_al2_ok, List.forall_mem_append.mpr ⟨tf_al3_ok, List.forall_mem_append.mpr ⟨tf_al4_ok, List.forall_mem_append.mpr ⟨tf_al5_ok, List.forall_mem_append.mpr ⟨tf_al6_ok, List.forall_mem_append.mpr ⟨tf_al7_ok, List.forall_mem_append.mpr ⟨tf_al8_ok, tf_al9_ok⟩⟩⟩⟩⟩⟩⟩⟩⟩
theorem tf_all_len : tf_all.length = tf_NM := by decide +kernel
def tf_row (kn : Nat) : tf_Row := tf_all.getD kn (⟨"", "", ""⟩, none, 0, 0, 0, ByteArray.empty, 0, [])
abbrev tf_my (kn : Nat) : MethodName := (tf_row kn).1
abbrev tf_mr (kn : Nat) : Option FieldType := (tf_row kn).2.1
abbrev tf_mc (kn : Nat) : Nat := (tf_row kn).2.2.1
abbrev tf_mn (kn : Nat) : Nat := (tf_row kn).2.2.2.1
abbrev tf_mo (kn : Nat) : Nat := (tf_row kn).2.2.2.2.1
abbrev tf_mb (kn : Nat) : ByteArray := (tf_row kn).2.2.2.2.2.1
abbrev tf_ml (kn : Nat) : Nat := (tf_row kn).2.2.2.2.2.2.1
abbrev tf_B (kn : Nat) : tf_Bk := (tf_row kn).2.2.2.2.2.2.2
theorem tf_row_ok {kn : Nat} (h : kn < tf_NM) : tf_RowOk (tf_row kn) := by
  have hl : kn < tf_all.length := by rw [tf_all_len]; exact h
  refine tf_all_ok (tf_row kn) ?_
  rw [tf_row, List.getD_eq_getElem?_getD, List.getElem?_eq_getElem hl]
  exact List.getElem_mem hl
