/-! the printed code is what the lists say -/
theorem D_X0_init : oz_dec cX0_init P_X0_init = true := by decide +kernel
theorem C_X0_init : oz_chain P_X0_init = true := by decide +kernel
theorem D_X1_seedsAt : oz_dec cX1_seedsAt P_X1_seedsAt = true := by decide +kernel
theorem C_X1_seedsAt : oz_chain P_X1_seedsAt = true := by decide +kernel
theorem D_X1_seeds : oz_dec cX1_seeds P_X1_seeds = true := by decide +kernel
theorem C_X1_seeds : oz_chain P_X1_seeds = true := by decide +kernel
theorem D_X1_next : oz_dec cX1_next P_X1_next = true := by decide +kernel
theorem C_X1_next : oz_chain P_X1_next = true := by decide +kernel
theorem D_X1_lives : oz_dec cX1_lives P_X1_lives = true := by decide +kernel
theorem C_X1_lives : oz_chain P_X1_lives = true := by decide +kernel
theorem D_X1_isLost : oz_dec cX1_isLost P_X1_isLost = true := by decide +kernel
theorem C_X1_isLost : oz_chain P_X1_isLost = true := by decide +kernel
theorem D_X1_afterWrongMove : oz_dec cX1_afterWrongMove P_X1_afterWrongMove = true := by decide +kernel
theorem C_X1_afterWrongMove : oz_chain P_X1_afterWrongMove = true := by decide +kernel
theorem D_X1_inPits : oz_dec cX1_inPits P_X1_inPits = true := by decide +kernel
theorem C_X1_inPits : oz_chain P_X1_inPits = true := by decide +kernel
theorem D_X1_pitsWithSeeds : oz_dec cX1_pitsWithSeeds P_X1_pitsWithSeeds = true := by decide +kernel
theorem C_X1_pitsWithSeeds : oz_chain P_X1_pitsWithSeeds = true := by decide +kernel
theorem D_X1_evenly : oz_dec cX1_evenly P_X1_evenly = true := by decide +kernel
theorem C_X1_evenly : oz_chain P_X1_evenly = true := by decide +kernel
theorem D_X1_lastOfFirstLap : oz_dec cX1_lastOfFirstLap P_X1_lastOfFirstLap = true := by decide +kernel
theorem C_X1_lastOfFirstLap : oz_chain P_X1_lastOfFirstLap = true := by decide +kernel
theorem D_X1_exactFromStore : oz_dec cX1_exactFromStore P_X1_exactFromStore = true := by decide +kernel
theorem C_X1_exactFromStore : oz_chain P_X1_exactFromStore = true := by decide +kernel
theorem D_X1_farthest : oz_dec cX1_farthest P_X1_farthest = true := by decide +kernel
theorem C_X1_farthest : oz_chain P_X1_farthest = true := by decide +kernel
theorem D_X1_turnedRound : oz_dec cX1_turnedRound P_X1_turnedRound = true := by decide +kernel
theorem C_X1_turnedRound : oz_chain P_X1_turnedRound = true := by decide +kernel
theorem D_X2_init : oz_dec cX2_init P_X2_init = true := by decide +kernel
theorem C_X2_init : oz_chain P_X2_init = true := by decide +kernel
theorem D_X2_explore : oz_dec cX2_explore P_X2_explore = true := by decide +kernel
theorem C_X2_explore : oz_chain P_X2_explore = true := by decide +kernel
theorem D_X2_visit : oz_dec cX2_visit P_X2_visit = true := by decide +kernel
theorem C_X2_visit : oz_chain P_X2_visit = true := by decide +kernel
theorem D_X2_slotOf : oz_dec cX2_slotOf P_X2_slotOf = true := by decide +kernel
theorem C_X2_slotOf : oz_chain P_X2_slotOf = true := by decide +kernel
theorem D_X2_mostIn : oz_dec cX2_mostIn P_X2_mostIn = true := by decide +kernel
theorem C_X2_mostIn : oz_chain P_X2_mostIn = true := by decide +kernel
theorem D_X2_fewestIn : oz_dec cX2_fewestIn P_X2_fewestIn = true := by decide +kernel
theorem C_X2_fewestIn : oz_chain P_X2_fewestIn = true := by decide +kernel
theorem D_X2_mostFrom : oz_dec cX2_mostFrom P_X2_mostFrom = true := by decide +kernel
theorem C_X2_mostFrom : oz_chain P_X2_mostFrom = true := by decide +kernel
theorem D_X2_fewestFrom : oz_dec cX2_fewestFrom P_X2_fewestFrom = true := by decide +kernel
theorem C_X2_fewestFrom : oz_chain P_X2_fewestFrom = true := by decide +kernel
theorem D_X2_firstMove : oz_dec cX2_firstMove P_X2_firstMove = true := by decide +kernel
theorem C_X2_firstMove : oz_chain P_X2_firstMove = true := by decide +kernel
theorem D_X3_init : oz_dec cX3_init P_X3_init = true := by decide +kernel
theorem C_X3_init : oz_chain P_X3_init = true := by decide +kernel
theorem D_X3_make : oz_dec cX3_make P_X3_make = true := by decide +kernel
theorem C_X3_make : oz_chain P_X3_make = true := by decide +kernel
theorem D_X3_endsAmongSeeds : oz_dec cX3_endsAmongSeeds P_X3_endsAmongSeeds = true := by decide +kernel
theorem C_X3_endsAmongSeeds : oz_chain P_X3_endsAmongSeeds = true := by decide +kernel
theorem D_X4_init : oz_dec cX4_init P_X4_init = true := by decide +kernel
theorem C_X4_init : oz_chain P_X4_init = true := by decide +kernel
theorem D_X4_copyFrom : oz_dec cX4_copyFrom P_X4_copyFrom = true := by decide +kernel
theorem C_X4_copyFrom : oz_chain P_X4_copyFrom = true := by decide +kernel
theorem D_X4_startRound : oz_dec cX4_startRound P_X4_startRound = true := by decide +kernel
theorem C_X4_startRound : oz_chain P_X4_startRound = true := by decide +kernel
theorem D_X4_store : oz_dec cX4_store P_X4_store = true := by decide +kernel
theorem C_X4_store : oz_chain P_X4_store = true := by decide +kernel
theorem D_X4_canSow : oz_dec cX4_canSow P_X4_canSow = true := by decide +kernel
theorem C_X4_canSow : oz_chain P_X4_canSow = true := by decide +kernel
theorem D_X4_sowable : oz_dec cX4_sowable P_X4_sowable = true := by decide +kernel
theorem C_X4_sowable : oz_chain P_X4_sowable = true := by decide +kernel
theorem D_X4_how : oz_dec cX4_how P_X4_how = true := by decide +kernel
theorem C_X4_how : oz_chain P_X4_how = true := by decide +kernel
theorem D_X4_keep : oz_dec cX4_keep P_X4_keep = true := by decide +kernel
theorem C_X4_keep : oz_chain P_X4_keep = true := by decide +kernel
theorem D_X4_forgetOldest : oz_dec cX4_forgetOldest P_X4_forgetOldest = true := by decide +kernel
theorem C_X4_forgetOldest : oz_chain P_X4_forgetOldest = true := by decide +kernel
theorem D_X4_takeBack : oz_dec cX4_takeBack P_X4_takeBack = true := by decide +kernel
theorem C_X4_takeBack : oz_chain P_X4_takeBack = true := by decide +kernel
theorem D_X4_keptPit : oz_dec cX4_keptPit P_X4_keptPit = true := by decide +kernel
theorem C_X4_keptPit : oz_chain P_X4_keptPit = true := by decide +kernel
theorem D_X4_latestLaps : oz_dec cX4_latestLaps P_X4_latestLaps = true := by decide +kernel
theorem C_X4_latestLaps : oz_chain P_X4_latestLaps = true := by decide +kernel
theorem D_X5_init : oz_dec cX5_init P_X5_init = true := by decide +kernel
theorem C_X5_init : oz_chain P_X5_init = true := by decide +kernel
theorem D_X5_set : oz_dec cX5_set P_X5_set = true := by decide +kernel
theorem C_X5_set : oz_chain P_X5_set = true := by decide +kernel
theorem D_X5_begin : oz_dec cX5_begin P_X5_begin = true := by decide +kernel
theorem C_X5_begin : oz_chain P_X5_begin = true := by decide +kernel
theorem D_X5_loadExact : oz_dec cX5_loadExact P_X5_loadExact = true := by decide +kernel
theorem C_X5_loadExact : oz_chain P_X5_loadExact = true := by decide +kernel
theorem D_X5_sow : oz_dec cX5_sow P_X5_sow = true := by decide +kernel
theorem C_X5_sow : oz_chain P_X5_sow = true := by decide +kernel
theorem D_X5_back : oz_dec cX5_back P_X5_back = true := by decide +kernel
theorem C_X5_back : oz_chain P_X5_back = true := by decide +kernel
theorem D_X5_pit : oz_dec cX5_pit P_X5_pit = true := by decide +kernel
theorem C_X5_pit : oz_chain P_X5_pit = true := by decide +kernel
theorem D_X5_count : oz_dec cX5_count P_X5_count = true := by decide +kernel
theorem C_X5_count : oz_chain P_X5_count = true := by decide +kernel
theorem D_X5_move : oz_dec cX5_move P_X5_move = true := by decide +kernel
theorem C_X5_move : oz_chain P_X5_move = true := by decide +kernel
theorem D_X5_ifSown : oz_dec cX5_ifSown P_X5_ifSown = true := by decide +kernel
theorem C_X5_ifSown : oz_chain P_X5_ifSown = true := by decide +kernel
theorem D_X5_ifSownHas : oz_dec cX5_ifSownHas P_X5_ifSownHas = true := by decide +kernel
theorem C_X5_ifSownHas : oz_chain P_X5_ifSownHas = true := by decide +kernel
theorem D_X5_best : oz_dec cX5_best P_X5_best = true := by decide +kernel
theorem C_X5_best : oz_chain P_X5_best = true := by decide +kernel
theorem D_X5_exact : oz_dec cX5_exact P_X5_exact = true := by decide +kernel
theorem C_X5_exact : oz_chain P_X5_exact = true := by decide +kernel
theorem D_X5_isRowLength : oz_dec cX5_isRowLength P_X5_isRowLength = true := by decide +kernel
theorem C_X5_isRowLength : oz_chain P_X5_isRowLength = true := by decide +kernel
theorem D_X5_isPit : oz_dec cX5_isPit P_X5_isPit = true := by decide +kernel
theorem C_X5_isPit : oz_chain P_X5_isPit = true := by decide +kernel
theorem D_X5_makeMove : oz_dec cX5_makeMove P_X5_makeMove = true := by decide +kernel
theorem C_X5_makeMove : oz_chain P_X5_makeMove = true := by decide +kernel
theorem D_X5_record : oz_dec cX5_record P_X5_record = true := by decide +kernel
theorem C_X5_record : oz_chain P_X5_record = true := by decide +kernel
theorem D_X5_dropOldest : oz_dec cX5_dropOldest P_X5_dropOldest = true := by decide +kernel
theorem C_X5_dropOldest : oz_chain P_X5_dropOldest = true := by decide +kernel
theorem D_L_cell : oz_dec cL_cell P_L_cell = true := by decide +kernel
theorem C_L_cell : oz_chain P_L_cell = true := by decide +kernel
theorem D_L_low : oz_dec cL_low P_L_low = true := by decide +kernel
theorem C_L_low : oz_chain P_L_low = true := by decide +kernel
theorem D_L_canSow : oz_dec cL_canSow P_L_canSow = true := by decide +kernel
theorem C_L_canSow : oz_chain P_L_canSow = true := by decide +kernel
theorem D_L_state : oz_dec cL_state P_L_state = true := by decide +kernel
theorem C_L_state : oz_chain P_L_state = true := by decide +kernel
theorem D_L_sown : oz_dec cL_sown P_L_sown = true := by decide +kernel
theorem C_L_sown : oz_chain P_L_sown = true := by decide +kernel
theorem D_L_same : oz_dec cL_same P_L_same = true := by decide +kernel
theorem C_L_same : oz_chain P_L_same = true := by decide +kernel
theorem D_L_exact : oz_dec cL_exact P_L_exact = true := by decide +kernel
theorem C_L_exact : oz_chain P_L_exact = true := by decide +kernel
theorem D_L_law : oz_dec code P_L_law = true := by decide +kernel
theorem C_L_law : oz_chain P_L_law = true := by decide +kernel
