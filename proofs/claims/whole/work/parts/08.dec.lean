/-! the printed code is what the lists say -/
theorem D_X0_init : oz_dec cX0_init P_X0_init = true := by decide +kernel
theorem C_X0_init : oz_chain P_X0_init = true := by decide +kernel
theorem D_X0_charactersIn : oz_dec cX0_charactersIn P_X0_charactersIn = true := by decide +kernel
theorem C_X0_charactersIn : oz_chain P_X0_charactersIn = true := by decide +kernel
theorem D_X0_append : oz_dec cX0_append P_X0_append = true := by decide +kernel
theorem C_X0_append : oz_chain P_X0_append = true := by decide +kernel
theorem D_X0_read : oz_dec cX0_read P_X0_read = true := by decide +kernel
theorem C_X0_read : oz_chain P_X0_read = true := by decide +kernel
theorem D_X0_canGrow : oz_dec cX0_canGrow P_X0_canGrow = true := by decide +kernel
theorem C_X0_canGrow : oz_chain P_X0_canGrow = true := by decide +kernel
theorem D_X0_canSeparate : oz_dec cX0_canSeparate P_X0_canSeparate = true := by decide +kernel
theorem C_X0_canSeparate : oz_chain P_X0_canSeparate = true := by decide +kernel
theorem D_X0_takePit : oz_dec cX0_takePit P_X0_takePit = true := by decide +kernel
theorem C_X0_takePit : oz_chain P_X0_takePit = true := by decide +kernel
theorem D_X0_takeStore : oz_dec cX0_takeStore P_X0_takeStore = true := by decide +kernel
theorem C_X0_takeStore : oz_chain P_X0_takeStore = true := by decide +kernel
theorem D_X1_seedsAt : oz_dec cX1_seedsAt P_X1_seedsAt = true := by decide +kernel
theorem C_X1_seedsAt : oz_chain P_X1_seedsAt = true := by decide +kernel
theorem D_X1_seeds : oz_dec cX1_seeds P_X1_seeds = true := by decide +kernel
theorem C_X1_seeds : oz_chain P_X1_seeds = true := by decide +kernel
theorem D_X1_next : oz_dec cX1_next P_X1_next = true := by decide +kernel
theorem C_X1_next : oz_chain P_X1_next = true := by decide +kernel
theorem D_X1_lives : oz_dec cX1_lives P_X1_lives = true := by decide +kernel
theorem C_X1_lives : oz_chain P_X1_lives = true := by decide +kernel
theorem D_X1_isLost : oz_dec cX1_isLost P_X1_isLost = true := by decide +kernel
theorem C_X1_isLost : oz_chain P_X1_isLost = true := by decide +kernel
theorem D_X1_afterWrongMove : oz_dec cX1_afterWrongMove P_X1_afterWrongMove = true := by decide +kernel
theorem C_X1_afterWrongMove : oz_chain P_X1_afterWrongMove = true := by decide +kernel
theorem D_X1_inPits : oz_dec cX1_inPits P_X1_inPits = true := by decide +kernel
theorem C_X1_inPits : oz_chain P_X1_inPits = true := by decide +kernel
theorem D_X1_pitsWithSeeds : oz_dec cX1_pitsWithSeeds P_X1_pitsWithSeeds = true := by decide +kernel
theorem C_X1_pitsWithSeeds : oz_chain P_X1_pitsWithSeeds = true := by decide +kernel
theorem D_X1_evenly : oz_dec cX1_evenly P_X1_evenly = true := by decide +kernel
theorem C_X1_evenly : oz_chain P_X1_evenly = true := by decide +kernel
theorem D_X1_lastOfFirstLap : oz_dec cX1_lastOfFirstLap P_X1_lastOfFirstLap = true := by decide +kernel
theorem C_X1_lastOfFirstLap : oz_chain P_X1_lastOfFirstLap = true := by decide +kernel
theorem D_X1_exactFromStore : oz_dec cX1_exactFromStore P_X1_exactFromStore = true := by decide +kernel
theorem C_X1_exactFromStore : oz_chain P_X1_exactFromStore = true := by decide +kernel
theorem D_X1_farthest : oz_dec cX1_farthest P_X1_farthest = true := by decide +kernel
theorem C_X1_farthest : oz_chain P_X1_farthest = true := by decide +kernel
theorem D_X1_turnedRound : oz_dec cX1_turnedRound P_X1_turnedRound = true := by decide +kernel
theorem C_X1_turnedRound : oz_chain P_X1_turnedRound = true := by decide +kernel
theorem D_X2_init : oz_dec cX2_init P_X2_init = true := by decide +kernel
theorem C_X2_init : oz_chain P_X2_init = true := by decide +kernel
theorem D_X2_explore : oz_dec cX2_explore P_X2_explore = true := by decide +kernel
theorem C_X2_explore : oz_chain P_X2_explore = true := by decide +kernel
theorem D_X2_visit : oz_dec cX2_visit P_X2_visit = true := by decide +kernel
theorem C_X2_visit : oz_chain P_X2_visit = true := by decide +kernel
theorem D_X2_slotOf : oz_dec cX2_slotOf P_X2_slotOf = true := by decide +kernel
theorem C_X2_slotOf : oz_chain P_X2_slotOf = true := by decide +kernel
theorem D_X2_mostIn : oz_dec cX2_mostIn P_X2_mostIn = true := by decide +kernel
theorem C_X2_mostIn : oz_chain P_X2_mostIn = true := by decide +kernel
theorem D_X2_fewestIn : oz_dec cX2_fewestIn P_X2_fewestIn = true := by decide +kernel
theorem C_X2_fewestIn : oz_chain P_X2_fewestIn = true := by decide +kernel
theorem D_X2_mostFrom : oz_dec cX2_mostFrom P_X2_mostFrom = true := by decide +kernel
theorem C_X2_mostFrom : oz_chain P_X2_mostFrom = true := by decide +kernel
theorem D_X2_fewestFrom : oz_dec cX2_fewestFrom P_X2_fewestFrom = true := by decide +kernel
theorem C_X2_fewestFrom : oz_chain P_X2_fewestFrom = true := by decide +kernel
theorem D_X2_firstMove : oz_dec cX2_firstMove P_X2_firstMove = true := by decide +kernel
theorem C_X2_firstMove : oz_chain P_X2_firstMove = true := by decide +kernel
theorem D_X3_init : oz_dec cX3_init P_X3_init = true := by decide +kernel
theorem C_X3_init : oz_chain P_X3_init = true := by decide +kernel
theorem D_X3_make : oz_dec cX3_make P_X3_make = true := by decide +kernel
theorem C_X3_make : oz_chain P_X3_make = true := by decide +kernel
theorem D_X3_endsAmongSeeds : oz_dec cX3_endsAmongSeeds P_X3_endsAmongSeeds = true := by decide +kernel
theorem C_X3_endsAmongSeeds : oz_chain P_X3_endsAmongSeeds = true := by decide +kernel
theorem D_X4_init : oz_dec cX4_init P_X4_init = true := by decide +kernel
theorem C_X4_init : oz_chain P_X4_init = true := by decide +kernel
theorem D_X4_copyFrom : oz_dec cX4_copyFrom P_X4_copyFrom = true := by decide +kernel
theorem C_X4_copyFrom : oz_chain P_X4_copyFrom = true := by decide +kernel
theorem D_X4_startRound : oz_dec cX4_startRound P_X4_startRound = true := by decide +kernel
theorem C_X4_startRound : oz_chain P_X4_startRound = true := by decide +kernel
theorem D_X4_store : oz_dec cX4_store P_X4_store = true := by decide +kernel
theorem C_X4_store : oz_chain P_X4_store = true := by decide +kernel
theorem D_X4_canSow : oz_dec cX4_canSow P_X4_canSow = true := by decide +kernel
theorem C_X4_canSow : oz_chain P_X4_canSow = true := by decide +kernel
theorem D_X4_sowable : oz_dec cX4_sowable P_X4_sowable = true := by decide +kernel
theorem C_X4_sowable : oz_chain P_X4_sowable = true := by decide +kernel
theorem D_X4_how : oz_dec cX4_how P_X4_how = true := by decide +kernel
theorem C_X4_how : oz_chain P_X4_how = true := by decide +kernel
theorem D_X4_keep : oz_dec cX4_keep P_X4_keep = true := by decide +kernel
theorem C_X4_keep : oz_chain P_X4_keep = true := by decide +kernel
theorem D_X4_forgetOldest : oz_dec cX4_forgetOldest P_X4_forgetOldest = true := by decide +kernel
theorem C_X4_forgetOldest : oz_chain P_X4_forgetOldest = true := by decide +kernel
theorem D_X4_takeBack : oz_dec cX4_takeBack P_X4_takeBack = true := by decide +kernel
theorem C_X4_takeBack : oz_chain P_X4_takeBack = true := by decide +kernel
theorem D_X4_keptPit : oz_dec cX4_keptPit P_X4_keptPit = true := by decide +kernel
theorem C_X4_keptPit : oz_chain P_X4_keptPit = true := by decide +kernel
theorem D_X4_latestLaps : oz_dec cX4_latestLaps P_X4_latestLaps = true := by decide +kernel
theorem C_X4_latestLaps : oz_chain P_X4_latestLaps = true := by decide +kernel
theorem D_X5_init : oz_dec cX5_init P_X5_init = true := by decide +kernel
theorem C_X5_init : oz_chain P_X5_init = true := by decide +kernel
theorem D_X5_set : oz_dec cX5_set P_X5_set = true := by decide +kernel
theorem C_X5_set : oz_chain P_X5_set = true := by decide +kernel
theorem D_X5_begin : oz_dec cX5_begin P_X5_begin = true := by decide +kernel
theorem C_X5_begin : oz_chain P_X5_begin = true := by decide +kernel
theorem D_X5_load : oz_dec cX5_load P_X5_load = true := by decide +kernel
theorem C_X5_load : oz_chain P_X5_load = true := by decide +kernel
theorem D_X5_loadExact : oz_dec cX5_loadExact P_X5_loadExact = true := by decide +kernel
theorem C_X5_loadExact : oz_chain P_X5_loadExact = true := by decide +kernel
theorem D_X5_sow : oz_dec cX5_sow P_X5_sow = true := by decide +kernel
theorem C_X5_sow : oz_chain P_X5_sow = true := by decide +kernel
theorem D_X5_back : oz_dec cX5_back P_X5_back = true := by decide +kernel
theorem C_X5_back : oz_chain P_X5_back = true := by decide +kernel
theorem D_X5_play : oz_dec cX5_play P_X5_play = true := by decide +kernel
theorem C_X5_play : oz_chain P_X5_play = true := by decide +kernel
theorem D_X5_pit : oz_dec cX5_pit P_X5_pit = true := by decide +kernel
theorem C_X5_pit : oz_chain P_X5_pit = true := by decide +kernel
theorem D_X5_count : oz_dec cX5_count P_X5_count = true := by decide +kernel
theorem C_X5_count : oz_chain P_X5_count = true := by decide +kernel
theorem D_X5_move : oz_dec cX5_move P_X5_move = true := by decide +kernel
theorem C_X5_move : oz_chain P_X5_move = true := by decide +kernel
theorem D_X5_ifSown : oz_dec cX5_ifSown P_X5_ifSown = true := by decide +kernel
theorem C_X5_ifSown : oz_chain P_X5_ifSown = true := by decide +kernel
theorem D_X5_ifSownHas : oz_dec cX5_ifSownHas P_X5_ifSownHas = true := by decide +kernel
theorem C_X5_ifSownHas : oz_chain P_X5_ifSownHas = true := by decide +kernel
theorem D_X5_best : oz_dec cX5_best P_X5_best = true := by decide +kernel
theorem C_X5_best : oz_chain P_X5_best = true := by decide +kernel
theorem D_X5_exact : oz_dec cX5_exact P_X5_exact = true := by decide +kernel
theorem C_X5_exact : oz_chain P_X5_exact = true := by decide +kernel
theorem D_X5_put : oz_dec cX5_put P_X5_put = true := by decide +kernel
theorem C_X5_put : oz_chain P_X5_put = true := by decide +kernel
theorem D_X5_wipe : oz_dec cX5_wipe P_X5_wipe = true := by decide +kernel
theorem C_X5_wipe : oz_chain P_X5_wipe = true := by decide +kernel
theorem D_X5_fault : oz_dec cX5_fault P_X5_fault = true := by decide +kernel
theorem C_X5_fault : oz_chain P_X5_fault = true := by decide +kernel
theorem D_X5_undo : oz_dec cX5_undo P_X5_undo = true := by decide +kernel
theorem C_X5_undo : oz_chain P_X5_undo = true := by decide +kernel
theorem D_X5_save : oz_dec cX5_save P_X5_save = true := by decide +kernel
theorem C_X5_save : oz_chain P_X5_save = true := by decide +kernel
theorem D_X5_restore : oz_dec cX5_restore P_X5_restore = true := by decide +kernel
theorem C_X5_restore : oz_chain P_X5_restore = true := by decide +kernel
theorem D_X5_isRowLength : oz_dec cX5_isRowLength P_X5_isRowLength = true := by decide +kernel
theorem C_X5_isRowLength : oz_chain P_X5_isRowLength = true := by decide +kernel
theorem D_X5_isPit : oz_dec cX5_isPit P_X5_isPit = true := by decide +kernel
theorem C_X5_isPit : oz_chain P_X5_isPit = true := by decide +kernel
theorem D_X5_makeMove : oz_dec cX5_makeMove P_X5_makeMove = true := by decide +kernel
theorem C_X5_makeMove : oz_chain P_X5_makeMove = true := by decide +kernel
theorem D_X5_record : oz_dec cX5_record P_X5_record = true := by decide +kernel
theorem C_X5_record : oz_chain P_X5_record = true := by decide +kernel
theorem D_X5_dropOldest : oz_dec cX5_dropOldest P_X5_dropOldest = true := by decide +kernel
theorem C_X5_dropOldest : oz_chain P_X5_dropOldest = true := by decide +kernel
theorem D_X6_init : oz_dec cX6_init P_X6_init = true := by decide +kernel
theorem C_X6_init : oz_chain P_X6_init = true := by decide +kernel
theorem D_X6_inn : oz_dec cX6_in P_X6_inn = true := by decide +kernel
theorem C_X6_inn : oz_chain P_X6_inn = true := by decide +kernel
theorem D_X6_isPit : oz_dec cX6_isPit P_X6_isPit = true := by decide +kernel
theorem C_X6_isPit : oz_chain P_X6_isPit = true := by decide +kernel
theorem D_X6_all : oz_dec cX6_all P_X6_all = true := by decide +kernel
theorem C_X6_all : oz_chain P_X6_all = true := by decide +kernel
theorem D_X6_remember : oz_dec cX6_remember P_X6_remember = true := by decide +kernel
theorem C_X6_remember : oz_chain P_X6_remember = true := by decide +kernel
theorem D_X6_record : oz_dec cX6_record P_X6_record = true := by decide +kernel
theorem C_X6_record : oz_chain P_X6_record = true := by decide +kernel
theorem D_X6_undo : oz_dec cX6_undo P_X6_undo = true := by decide +kernel
theorem C_X6_undo : oz_chain P_X6_undo = true := by decide +kernel
theorem D_X6_save : oz_dec cX6_save P_X6_save = true := by decide +kernel
theorem C_X6_save : oz_chain P_X6_save = true := by decide +kernel
theorem D_X6_restore : oz_dec cX6_restore P_X6_restore = true := by decide +kernel
theorem C_X6_restore : oz_chain P_X6_restore = true := by decide +kernel
theorem D_X6_takeNow : oz_dec cX6_takeNow P_X6_takeNow = true := by decide +kernel
theorem C_X6_takeNow : oz_chain P_X6_takeNow = true := by decide +kernel
theorem D_X6_canSow : oz_dec cX6_canSow P_X6_canSow = true := by decide +kernel
theorem C_X6_canSow : oz_chain P_X6_canSow = true := by decide +kernel
theorem D_X6_loses : oz_dec cX6_loses P_X6_loses = true := by decide +kernel
theorem C_X6_loses : oz_chain P_X6_loses = true := by decide +kernel
theorem D_X6_isEmpty : oz_dec cX6_isEmpty P_X6_isEmpty = true := by decide +kernel
theorem C_X6_isEmpty : oz_chain P_X6_isEmpty = true := by decide +kernel
theorem D_X6_isStuck : oz_dec cX6_isStuck P_X6_isStuck = true := by decide +kernel
theorem C_X6_isStuck : oz_chain P_X6_isStuck = true := by decide +kernel
theorem D_X6_how : oz_dec cX6_how P_X6_how = true := by decide +kernel
theorem C_X6_how : oz_chain P_X6_how = true := by decide +kernel
theorem D_X6_now : oz_dec cX6_now P_X6_now = true := by decide +kernel
theorem C_X6_now : oz_chain P_X6_now = true := by decide +kernel
theorem D_X6_code : oz_dec cX6_code P_X6_code = true := by decide +kernel
theorem C_X6_code : oz_chain P_X6_code = true := by decide +kernel
theorem D_X6_open : oz_dec cX6_open P_X6_open = true := by decide +kernel
theorem C_X6_open : oz_chain P_X6_open = true := by decide +kernel
theorem D_X6_meet : oz_dec cX6_meet P_X6_meet = true := by decide +kernel
theorem C_X6_meet : oz_chain P_X6_meet = true := by decide +kernel
theorem D_X6_search : oz_dec cX6_search P_X6_search = true := by decide +kernel
theorem C_X6_search : oz_chain P_X6_search = true := by decide +kernel
theorem D_X6_worth : oz_dec cX6_worth P_X6_worth = true := by decide +kernel
theorem C_X6_worth : oz_chain P_X6_worth = true := by decide +kernel
theorem D_X6_bestNow : oz_dec cX6_bestNow P_X6_bestNow = true := by decide +kernel
theorem C_X6_bestNow : oz_chain P_X6_bestNow = true := by decide +kernel
theorem D_X6_firstMove : oz_dec cX6_firstMove P_X6_firstMove = true := by decide +kernel
theorem C_X6_firstMove : oz_chain P_X6_firstMove = true := by decide +kernel
theorem D_X6_best : oz_dec cX6_best P_X6_best = true := by decide +kernel
theorem C_X6_best : oz_chain P_X6_best = true := by decide +kernel
theorem D_X6_anew : oz_dec cX6_anew P_X6_anew = true := by decide +kernel
theorem C_X6_anew : oz_chain P_X6_anew = true := by decide +kernel
theorem D_X6_set : oz_dec cX6_set P_X6_set = true := by decide +kernel
theorem C_X6_set : oz_chain P_X6_set = true := by decide +kernel
theorem D_X6_begin : oz_dec cX6_begin P_X6_begin = true := by decide +kernel
theorem C_X6_begin : oz_chain P_X6_begin = true := by decide +kernel
theorem D_X6_laysExact : oz_dec cX6_laysExact P_X6_laysExact = true := by decide +kernel
theorem C_X6_laysExact : oz_chain P_X6_laysExact = true := by decide +kernel
theorem D_X6_exact : oz_dec cX6_exact P_X6_exact = true := by decide +kernel
theorem C_X6_exact : oz_chain P_X6_exact = true := by decide +kernel
theorem D_X6_loadExact : oz_dec cX6_loadExact P_X6_loadExact = true := by decide +kernel
theorem C_X6_loadExact : oz_chain P_X6_loadExact = true := by decide +kernel
theorem D_X6_moves : oz_dec cX6_moves P_X6_moves = true := by decide +kernel
theorem C_X6_moves : oz_chain P_X6_moves = true := by decide +kernel
theorem D_X6_refusal : oz_dec cX6_refusal P_X6_refusal = true := by decide +kernel
theorem C_X6_refusal : oz_chain P_X6_refusal = true := by decide +kernel
theorem D_X6_sow : oz_dec cX6_sow P_X6_sow = true := by decide +kernel
theorem C_X6_sow : oz_chain P_X6_sow = true := by decide +kernel
theorem D_X6_back : oz_dec cX6_back P_X6_back = true := by decide +kernel
theorem C_X6_back : oz_chain P_X6_back = true := by decide +kernel
theorem D_X6_play : oz_dec cX6_play P_X6_play = true := by decide +kernel
theorem C_X6_play : oz_chain P_X6_play = true := by decide +kernel
theorem D_X6_pit : oz_dec cX6_pit P_X6_pit = true := by decide +kernel
theorem C_X6_pit : oz_chain P_X6_pit = true := by decide +kernel
theorem D_X6_sowable : oz_dec cX6_sowable P_X6_sowable = true := by decide +kernel
theorem C_X6_sowable : oz_chain P_X6_sowable = true := by decide +kernel
theorem D_X6_count : oz_dec cX6_count P_X6_count = true := by decide +kernel
theorem C_X6_count : oz_chain P_X6_count = true := by decide +kernel
theorem D_X6_move : oz_dec cX6_move P_X6_move = true := by decide +kernel
theorem C_X6_move : oz_chain P_X6_move = true := by decide +kernel
theorem D_X6_ifSown : oz_dec cX6_ifSown P_X6_ifSown = true := by decide +kernel
theorem C_X6_ifSown : oz_chain P_X6_ifSown = true := by decide +kernel
theorem D_X6_ifSownHas : oz_dec cX6_ifSownHas P_X6_ifSownHas = true := by decide +kernel
theorem C_X6_ifSownHas : oz_chain P_X6_ifSownHas = true := by decide +kernel
theorem D_X6_put : oz_dec cX6_put P_X6_put = true := by decide +kernel
theorem C_X6_put : oz_chain P_X6_put = true := by decide +kernel
theorem D_X6_wipe : oz_dec cX6_wipe P_X6_wipe = true := by decide +kernel
theorem C_X6_wipe : oz_chain P_X6_wipe = true := by decide +kernel
theorem D_X6_sees : oz_dec cX6_sees P_X6_sees = true := by decide +kernel
theorem C_X6_sees : oz_chain P_X6_sees = true := by decide +kernel
theorem D_X6_number : oz_dec cX6_number P_X6_number = true := by decide +kernel
theorem C_X6_number : oz_chain P_X6_number = true := by decide +kernel
theorem D_X6_isWell : oz_dec cX6_isWell P_X6_isWell = true := by decide +kernel
theorem C_X6_isWell : oz_chain P_X6_isWell = true := by decide +kernel
theorem D_X6_fault : oz_dec cX6_fault P_X6_fault = true := by decide +kernel
theorem C_X6_fault : oz_chain P_X6_fault = true := by decide +kernel
theorem D_X6_load : oz_dec cX6_load P_X6_load = true := by decide +kernel
theorem C_X6_load : oz_chain P_X6_load = true := by decide +kernel
