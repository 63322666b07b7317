def am_dec (e : am_E) : Bool := (am_rows e).all (fun r => decide (decode e.2.1 r.1 = .ok (r.2.1, r.2.2.1)))
def am_flc (r : Nat × Nat × Nat × Nat) : Cond := .fieldLink (am_cn r.1) r.2.1 (am_T r.2.2.1 r.2.2.2).1 (am_T r.2.2.1 r.2.2.2).2.1 (am_T r.2.2.1 r.2.2.2).2.2.1
/-- the rows of a method speak of links that the tables have -/
def am_lk (e : am_E) : Bool := (am_rows e).all (fun r => match r.2.1 with
  | .getfield i => am_flz.any (fun q => Nat.beq q.1.1 (am_own e) && (Nat.beq q.1.2.1 i && (Nat.beq q.1.2.2.1 r.2.2.2.1 && Nat.beq q.1.2.2.2 r.2.2.2.2.1))) && decide ((am_fk r.2.2.2.1)[r.2.2.2.2.1]?.map (fun k => (k : Int)) = some r.2.2.2.2.2)
  | .putfield i => am_flz.any (fun q => Nat.beq q.1.1 (am_own e) && (Nat.beq q.1.2.1 i && (Nat.beq q.1.2.2.1 r.2.2.2.1 && Nat.beq q.1.2.2.2 r.2.2.2.2.1))) && (decide ((am_fk r.2.2.2.1)[r.2.2.2.2.1]?.map (fun k => (k : Int)) = some r.2.2.2.2.2) && (!(am_T r.2.2.2.1 r.2.2.2.2.1).2.2.2 || (e.1.name == "<init>" && Nat.beq (am_own e) r.2.2.2.1)))
  | .invokevirtual i => am_mlz.any (fun q => Nat.beq q.1.1 (am_own e) && (Nat.beq q.1.2.1 i && (Nat.beq q.1.2.2.1 r.2.2.2.1 && decide (q.1.2.2.2 = r.2.2.2.2.2)))) || decide (r.2.2.2.2.2 = 99)
  | .invokespecial i => am_mlz.any (fun q => Nat.beq q.1.1 (am_own e) && (Nat.beq q.1.2.1 i && (Nat.beq q.1.2.2.1 r.2.2.2.1 && decide (q.1.2.2.2 = r.2.2.2.2.2))))
  | .invokestatic i => am_mlz.any (fun q => Nat.beq q.1.1 (am_own e) && (Nat.beq q.1.2.1 i && (Nat.beq q.1.2.2.1 r.2.2.2.1 && decide (q.1.2.2.2 = r.2.2.2.2.2))))
  | .new i => am_klz.any (fun q => Nat.beq q.1.1 (am_own e) && (Nat.beq q.1.2.1 i && (Nat.beq q.1.2.2.1 r.2.2.2.1 && (Nat.beq q.1.2.2.2 0 && Nat.beq (am_N r.2.2.2.1) r.2.2.2.2.1))))
  | .anewarray i => am_klz.any (fun q => Nat.beq q.1.1 (am_own e) && (Nat.beq q.1.2.1 i && (Nat.beq q.1.2.2.1 r.2.2.2.1 && Nat.beq q.1.2.2.2 1)))
  | .multianewarray i _ => am_klz.any (fun q => Nat.beq q.1.1 (am_own e) && (Nat.beq q.1.2.1 i && Nat.beq q.1.2.2.2 2))
  | .ldc i => if r.2.2.2.2.1 = 1 then am_slz.any (fun q => Nat.beq q.1.1 (am_own e) && (Nat.beq q.1.2.1 i && Nat.beq q.1.2.2 r.2.2.2.1)) else am_ilz.any (fun q => Nat.beq q.1.1 (am_own e) && (Nat.beq q.1.2.1 i && decide (q.1.2.2 = r.2.2.2.2.2)))
  | .ldc_w i => am_ilz.any (fun q => Nat.beq q.1.1 (am_own e) && (Nat.beq q.1.2.1 i && decide (q.1.2.2 = r.2.2.2.2.2)))
  | .ldc2_w i => am_jlz.any (fun q => Nat.beq q.1.1 (am_own e) && (Nat.beq q.1.2.1 i && decide (q.1.2.2 = r.2.2.2.2.2)))
  | _ => true)
def am_ok1 (e : am_E) : Bool := am_dec e && am_lk e
theorem k_Finder_init : am_ok1 e_Finder_init = true := by decide +kernel
theorem k_Finder_look : am_ok1 e_Finder_look = true := by decide +kernel
theorem k_Finder_lookAsIfWiped : am_ok1 e_Finder_lookAsIfWiped = true := by decide +kernel
theorem k_Finder_measure : am_ok1 e_Finder_measure = true := by decide +kernel
theorem k_Finder_costFrom : am_ok1 e_Finder_costFrom = true := by decide +kernel
theorem k_Finder_nextRoad : am_ok1 e_Finder_nextRoad = true := by decide +kernel
theorem k_Finder_roadOfWay : am_ok1 e_Finder_roadOfWay = true := by decide +kernel
theorem k_Finder_placesFrom : am_ok1 e_Finder_placesFrom = true := by decide +kernel
theorem k_Finder_go : am_ok1 e_Finder_go = true := by decide +kernel
theorem k_Finder_stuckIn : am_ok1 e_Finder_stuckIn = true := by decide +kernel
theorem k_Finder_findNewRoad : am_ok1 e_Finder_findNewRoad = true := by decide +kernel
theorem k_Finder_draw : am_ok1 e_Finder_draw = true := by decide +kernel
theorem k_Finder_runWeeks : am_ok1 e_Finder_runWeeks = true := by decide +kernel
theorem k_Laws_init : am_ok1 e_Laws_init = true := by decide +kernel
theorem k_Laws_add : am_ok1 e_Laws_add = true := by decide +kernel
theorem k_Laws_broken : am_ok1 e_Laws_broken = true := by decide +kernel
theorem k_Laws_lastAfter : am_ok1 e_Laws_lastAfter = true := by decide +kernel
theorem k_Laws_inForce : am_ok1 e_Laws_inForce = true := by decide +kernel
theorem k_Laws_tell : am_ok1 e_Laws_tell = true := by decide +kernel
theorem k_Laws_holds : am_ok1 e_Laws_holds = true := by decide +kernel
theorem k_Laws_workOut : am_ok1 e_Laws_workOut = true := by decide +kernel
theorem k_NetReader_init : am_ok1 e_NetReader_init = true := by decide +kernel
theorem k_NetReader_read : am_ok1 e_NetReader_read = true := by decide +kernel
theorem k_NetReader_readClause : am_ok1 e_NetReader_readClause = true := by decide +kernel
theorem k_NetReader_allows : am_ok1 e_NetReader_allows = true := by decide +kernel
theorem k_NetReader_readRoad : am_ok1 e_NetReader_readRoad = true := by decide +kernel
theorem k_NetReader_readLoad : am_ok1 e_NetReader_readLoad = true := by decide +kernel
theorem k_Orders_init : am_ok1 e_Orders_init = true := by decide +kernel
theorem k_Orders_begin : am_ok1 e_Orders_begin = true := by decide +kernel
theorem k_Orders_findBest : am_ok1 e_Orders_findBest = true := by decide +kernel
theorem k_Orders_bestAt : am_ok1 e_Orders_bestAt = true := by decide +kernel
theorem k_Orders_tryOrders : am_ok1 e_Orders_tryOrders = true := by decide +kernel
theorem k_Orders_worthLeft : am_ok1 e_Orders_worthLeft = true := by decide +kernel
theorem k_Orders_findRows : am_ok1 e_Orders_findRows = true := by decide +kernel
theorem k_Orders_firstAt : am_ok1 e_Orders_firstAt = true := by decide +kernel
theorem k_Orders_tryRows : am_ok1 e_Orders_tryRows = true := by decide +kernel
theorem k_Orders_noteRow : am_ok1 e_Orders_noteRow = true := by decide +kernel
theorem k_Planner_init : am_ok1 e_Planner_init = true := by decide +kernel
theorem k_Planner_fewestDays : am_ok1 e_Planner_fewestDays = true := by decide +kernel
theorem k_Planner_placeOf : am_ok1 e_Planner_placeOf = true := by decide +kernel
theorem k_Planner_hasLoad : am_ok1 e_Planner_hasLoad = true := by decide +kernel
theorem k_Planner_goThrough : am_ok1 e_Planner_goThrough = true := by decide +kernel
theorem k_Planner_come : am_ok1 e_Planner_come = true := by decide +kernel
theorem k_Planner_slotOf : am_ok1 e_Planner_slotOf = true := by decide +kernel
theorem k_Roads_init : am_ok1 e_Roads_init = true := by decide +kernel
theorem k_Roads_clear : am_ok1 e_Roads_clear = true := by decide +kernel
theorem k_Roads_add : am_ok1 e_Roads_add = true := by decide +kernel
theorem k_Roads_copy : am_ok1 e_Roads_copy = true := by decide +kernel
theorem k_Roads_copyTale : am_ok1 e_Roads_copyTale = true := by decide +kernel
theorem k_Roads_hasPlace : am_ok1 e_Roads_hasPlace = true := by decide +kernel
theorem k_Roads_hasRoad : am_ok1 e_Roads_hasRoad = true := by decide +kernel
theorem k_Roads_across : am_ok1 e_Roads_across = true := by decide +kernel
theorem k_Roads_note : am_ok1 e_Roads_note = true := by decide +kernel
theorem k_Roads_countUnused : am_ok1 e_Roads_countUnused = true := by decide +kernel
theorem k_Rule_init : am_ok1 e_Rule_init = true := by decide +kernel
theorem k_RuleReader_init : am_ok1 e_RuleReader_init = true := by decide +kernel
theorem k_RuleReader_made : am_ok1 e_RuleReader_made = true := by decide +kernel
theorem k_RuleReader_read : am_ok1 e_RuleReader_read = true := by decide +kernel
theorem k_RuleReader_write : am_ok1 e_RuleReader_write = true := by decide +kernel
theorem k_RuleReader_readTest : am_ok1 e_RuleReader_readTest = true := by decide +kernel
theorem k_RuleReader_readFact : am_ok1 e_RuleReader_readFact = true := by decide +kernel
theorem k_RuleReader_readSign : am_ok1 e_RuleReader_readSign = true := by decide +kernel
theorem k_RuleReader_countAt : am_ok1 e_RuleReader_countAt = true := by decide +kernel
theorem k_RuleReader_readSum : am_ok1 e_RuleReader_readSum = true := by decide +kernel
theorem k_RuleReader_readValue : am_ok1 e_RuleReader_readValue = true := by decide +kernel
theorem k_State_init : am_ok1 e_State_init = true := by decide +kernel
theorem k_State_clear : am_ok1 e_State_clear = true := by decide +kernel
theorem k_State_copy : am_ok1 e_State_copy = true := by decide +kernel
theorem k_State_addCarter : am_ok1 e_State_addCarter = true := by decide +kernel
theorem k_State_addLoad : am_ok1 e_State_addLoad = true := by decide +kernel
theorem k_State_hasNet : am_ok1 e_State_hasNet = true := by decide +kernel
theorem k_State_hasCarter : am_ok1 e_State_hasCarter = true := by decide +kernel
theorem k_State_hasLoad : am_ok1 e_State_hasLoad = true := by decide +kernel
theorem k_State_kindCarried : am_ok1 e_State_kindCarried = true := by decide +kernel
theorem k_State_isThere : am_ok1 e_State_isThere = true := by decide +kernel
theorem k_State_waits : am_ok1 e_State_waits = true := by decide +kernel
theorem k_State_countThere : am_ok1 e_State_countThere = true := by decide +kernel
theorem k_State_countSeen : am_ok1 e_State_countSeen = true := by decide +kernel
theorem k_State_agrees : am_ok1 e_State_agrees = true := by decide +kernel
theorem k_Tape_init : am_ok1 e_Tape_init = true := by decide +kernel
theorem k_Tape_put : am_ok1 e_Tape_put = true := by decide +kernel
theorem k_Tape_rewind : am_ok1 e_Tape_rewind = true := by decide +kernel
theorem k_Tape_fail : am_ok1 e_Tape_fail = true := by decide +kernel
theorem k_Tape_peek : am_ok1 e_Tape_peek = true := by decide +kernel
theorem k_Tape_passSign : am_ok1 e_Tape_passSign = true := by decide +kernel
theorem k_Tape_passWord : am_ok1 e_Tape_passWord = true := by decide +kernel
theorem k_Tape_passOneOf : am_ok1 e_Tape_passOneOf = true := by decide +kernel
theorem k_Tape_passNumber : am_ok1 e_Tape_passNumber = true := by decide +kernel
theorem k_Tape_goesOn : am_ok1 e_Tape_goesOn = true := by decide +kernel
theorem k_LL_init : am_ok1 e_LL_init = true := by decide +kernel
theorem k_LL_feed : am_ok1 e_LL_feed = true := by decide +kernel
theorem k_LL_end : am_ok1 e_LL_end = true := by decide +kernel
theorem k_LL_net : am_ok1 e_LL_net = true := by decide +kernel
theorem k_LL_rule : am_ok1 e_LL_rule = true := by decide +kernel
theorem k_LL_force : am_ok1 e_LL_force = true := by decide +kernel
theorem k_LL_road : am_ok1 e_LL_road = true := by decide +kernel
theorem k_LL_carter : am_ok1 e_LL_carter = true := by decide +kernel
theorem k_LL_load : am_ok1 e_LL_load = true := by decide +kernel
theorem k_LL_drive : am_ok1 e_LL_drive = true := by decide +kernel
theorem k_LL_take : am_ok1 e_LL_take = true := by decide +kernel
theorem k_LL_lay : am_ok1 e_LL_lay = true := by decide +kernel
theorem k_LL_soonest : am_ok1 e_LL_soonest = true := by decide +kernel
theorem k_LL_way : am_ok1 e_LL_way = true := by decide +kernel
theorem k_LL_reached : am_ok1 e_LL_reached = true := by decide +kernel
theorem k_LL_wiped : am_ok1 e_LL_wiped = true := by decide +kernel
theorem k_LL_plan : am_ok1 e_LL_plan = true := by decide +kernel
theorem k_LL_stuck : am_ok1 e_LL_stuck = true := by decide +kernel
theorem k_LL_order : am_ok1 e_LL_order = true := by decide +kernel
theorem k_LL_dear : am_ok1 e_LL_dear = true := by decide +kernel
theorem k_LL_better : am_ok1 e_LL_better = true := by decide +kernel
theorem k_LL_found : am_ok1 e_LL_found = true := by decide +kernel
theorem k_LL_drove : am_ok1 e_LL_drove = true := by decide +kernel
theorem k_LL_seed : am_ok1 e_LL_seed = true := by decide +kernel
theorem k_LL_weeks : am_ok1 e_LL_weeks = true := by decide +kernel
theorem k_LL_count : am_ok1 e_LL_count = true := by decide +kernel
theorem k_LL_image : am_ok1 e_LL_image = true := by decide +kernel
theorem k_LL_back : am_ok1 e_LL_back = true := by decide +kernel
theorem k_LL_canAsk : am_ok1 e_LL_canAsk = true := by decide +kernel
theorem k_Arrays_fill : am_ok1 e_Arrays_fill = true := by decide +kernel
theorem k_Arrays_copyOf : am_ok1 e_Arrays_copyOf = true := by decide +kernel
theorem k_Math_min : am_ok1 e_Math_min = true := by decide +kernel
theorem k_Math_max : am_ok1 e_Math_max = true := by decide +kernel
theorem k_Integer_bitCount : am_ok1 e_Integer_bitCount = true := by decide +kernel
