set_option maxRecDepth 100000 in
theorem am_cd_X0_empty : Cond.code am_m_X0_empty.1 am_m_X0_empty.2.1 am_m_X0_empty.2.2.1 am_m_X0_empty.2.2.2.1 ∈ am_T := am_T_mem 494 rfl rfl
set_option maxRecDepth 100000 in
theorem am_cd_X0_addAsked : Cond.code am_m_X0_addAsked.1 am_m_X0_addAsked.2.1 am_m_X0_addAsked.2.2.1 am_m_X0_addAsked.2.2.2.1 ∈ am_T := am_T_mem 694 rfl rfl
set_option maxRecDepth 100000 in
theorem am_cd_X0_addEntry : Cond.code am_m_X0_addEntry.1 am_m_X0_addEntry.2.1 am_m_X0_addEntry.2.2.1 am_m_X0_addEntry.2.2.2.1 ∈ am_T := am_T_mem 754 rfl rfl
set_option maxRecDepth 100000 in
theorem am_cd_X0_fit : Cond.code am_m_X0_fit.1 am_m_X0_fit.2.1 am_m_X0_fit.2.2.1 am_m_X0_fit.2.2.2.1 ∈ am_T := am_T_mem 726 rfl rfl
set_option maxRecDepth 100000 in
theorem am_cd_X0_firstWrong : Cond.code am_m_X0_firstWrong.1 am_m_X0_firstWrong.2.1 am_m_X0_firstWrong.2.2.1 am_m_X0_firstWrong.2.2.2.1 ∈ am_T := am_T_mem 766 rfl rfl
set_option maxRecDepth 100000 in
theorem am_cd_X1_goThrough : Cond.code am_m_X1_goThrough.1 am_m_X1_goThrough.2.1 am_m_X1_goThrough.2.2.1 am_m_X1_goThrough.2.2.2.1 ∈ am_T := am_T_mem 703 rfl rfl
set_option maxRecDepth 100000 in
theorem am_cd_X1_followChain : Cond.code am_m_X1_followChain.1 am_m_X1_followChain.2.1 am_m_X1_followChain.2.2.1 am_m_X1_followChain.2.2.2.1 ∈ am_T := am_T_mem 710 rfl rfl
set_option maxRecDepth 100000 in
theorem am_cd_X1_knowersOf : Cond.code am_m_X1_knowersOf.1 am_m_X1_knowersOf.2.1 am_m_X1_knowersOf.2.2.1 am_m_X1_knowersOf.2.2.2.1 ∈ am_T := am_T_mem 722 rfl rfl
set_option maxRecDepth 100000 in
theorem am_cd_X1_countWays : Cond.code am_m_X1_countWays.1 am_m_X1_countWays.2.1 am_m_X1_countWays.2.2.1 am_m_X1_countWays.2.2.2.1 ∈ am_T := am_T_mem 718 rfl rfl
set_option maxRecDepth 100000 in
theorem am_cd_X1_wayNumber : Cond.code am_m_X1_wayNumber.1 am_m_X1_wayNumber.2.1 am_m_X1_wayNumber.2.2.1 am_m_X1_wayNumber.2.2.2.1 ∈ am_T := am_T_mem 730 rfl rfl
set_option maxRecDepth 100000 in
theorem am_cd_X1_bestToAsk : Cond.code am_m_X1_bestToAsk.1 am_m_X1_bestToAsk.2.1 am_m_X1_bestToAsk.2.2.1 am_m_X1_bestToAsk.2.2.2.1 ∈ am_T := am_T_mem 738 rfl rfl
set_option maxRecDepth 100000 in
theorem am_cd_X1_countKnowingWays : Cond.code am_m_X1_countKnowingWays.1 am_m_X1_countKnowingWays.2.1 am_m_X1_countKnowingWays.2.2.1 am_m_X1_countKnowingWays.2.2.2.1 ∈ am_T := am_T_mem 742 rfl rfl
set_option maxRecDepth 100000 in
theorem am_cd_X2_clear : Cond.code am_m_X2_clear.1 am_m_X2_clear.2.1 am_m_X2_clear.2.2.1 am_m_X2_clear.2.2.2.1 ∈ am_T := am_T_mem 364 rfl rfl
set_option maxRecDepth 100000 in
theorem am_cd_X2_hasCell : Cond.code am_m_X2_hasCell.1 am_m_X2_hasCell.2.1 am_m_X2_hasCell.2.2.1 am_m_X2_hasCell.2.2.2.1 ∈ am_T := am_T_mem 488 rfl rfl
set_option maxRecDepth 100000 in
theorem am_cd_X2_doorOn : Cond.code am_m_X2_doorOn.1 am_m_X2_doorOn.2.1 am_m_X2_doorOn.2.2.1 am_m_X2_doorOn.2.2.2.1 ∈ am_T := am_T_mem 421 rfl rfl
set_option maxRecDepth 100000 in
theorem am_cd_X2_addDoor : Cond.code am_m_X2_addDoor.1 am_m_X2_addDoor.2.1 am_m_X2_addDoor.2.2.1 am_m_X2_addDoor.2.2.2.1 ∈ am_T := am_T_mem 433 rfl rfl
set_option maxRecDepth 100000 in
theorem am_cd_X2_addComing : Cond.code am_m_X2_addComing.1 am_m_X2_addComing.2.1 am_m_X2_addComing.2.2.1 am_m_X2_addComing.2.2.2.1 ∈ am_T := am_T_mem 441 rfl rfl
set_option maxRecDepth 100000 in
theorem am_cd_X2_thingsOfComings : Cond.code am_m_X2_thingsOfComings.1 am_m_X2_thingsOfComings.2.1 am_m_X2_thingsOfComings.2.2.1 am_m_X2_thingsOfComings.2.2.2.1 ∈ am_T := am_T_mem 616 rfl rfl
set_option maxRecDepth 100000 in
theorem am_cd_X2_thingsBy : Cond.code am_m_X2_thingsBy.1 am_m_X2_thingsBy.2.1 am_m_X2_thingsBy.2.2.1 am_m_X2_thingsBy.2.2.2.1 ∈ am_T := am_T_mem 566 rfl rfl
set_option maxRecDepth 100000 in
theorem am_cd_X2_firstHourBy : Cond.code am_m_X2_firstHourBy.1 am_m_X2_firstHourBy.2.1 am_m_X2_firstHourBy.2.2.1 am_m_X2_firstHourBy.2.2.2.1 ∈ am_T := am_T_mem 604 rfl rfl
set_option maxRecDepth 100000 in
theorem am_cd_X3_append : Cond.code am_m_X3_append.1 am_m_X3_append.2.1 am_m_X3_append.2.2.1 am_m_X3_append.2.2.2.1 ∈ am_T := am_T_mem 351 rfl rfl
set_option maxRecDepth 100000 in
theorem am_cd_X3_empty : Cond.code am_m_X3_empty.1 am_m_X3_empty.2.1 am_m_X3_empty.2.2.1 am_m_X3_empty.2.2.2.1 ∈ am_T := am_T_mem 460 rfl rfl
set_option maxRecDepth 100000 in
theorem am_cd_X3_readInto : Cond.code am_m_X3_readInto.1 am_m_X3_readInto.2.1 am_m_X3_readInto.2.2.1 am_m_X3_readInto.2.2.2.1 ∈ am_T := am_T_mem 360 rfl rfl
set_option maxRecDepth 100000 in
theorem am_cd_X3_failAt : Cond.code am_m_X3_failAt.1 am_m_X3_failAt.2.1 am_m_X3_failAt.2.2.1 am_m_X3_failAt.2.2.2.1 ∈ am_T := am_T_mem 387 rfl rfl
set_option maxRecDepth 100000 in
theorem am_cd_X3_letterHere : Cond.code am_m_X3_letterHere.1 am_m_X3_letterHere.2.1 am_m_X3_letterHere.2.2.1 am_m_X3_letterHere.2.2.2.1 ∈ am_T := am_T_mem 376 rfl rfl
set_option maxRecDepth 100000 in
theorem am_cd_X3_skipBlanks : Cond.code am_m_X3_skipBlanks.1 am_m_X3_skipBlanks.2.1 am_m_X3_skipBlanks.2.2.1 am_m_X3_skipBlanks.2.2.2.1 ∈ am_T := am_T_mem 372 rfl rfl
set_option maxRecDepth 100000 in
theorem am_cd_X3_isFigure : Cond.code am_m_X3_isFigure.1 am_m_X3_isFigure.2.1 am_m_X3_isFigure.2.2.1 am_m_X3_isFigure.2.2.2.1 ∈ am_T := am_T_mem 401 rfl rfl
set_option maxRecDepth 100000 in
theorem am_cd_X3_isWord : Cond.code am_m_X3_isWord.1 am_m_X3_isWord.2.1 am_m_X3_isWord.2.2.1 am_m_X3_isWord.2.2.2.1 ∈ am_T := am_T_mem 383 rfl rfl
set_option maxRecDepth 100000 in
theorem am_cd_X3_isOneTooMany : Cond.code am_m_X3_isOneTooMany.1 am_m_X3_isOneTooMany.2.1 am_m_X3_isOneTooMany.2.2.1 am_m_X3_isOneTooMany.2.2.2.1 ∈ am_T := am_T_mem 390 rfl rfl
set_option maxRecDepth 100000 in
theorem am_cd_X3_readClause : Cond.code am_m_X3_readClause.1 am_m_X3_readClause.2.1 am_m_X3_readClause.2.2.1 am_m_X3_readClause.2.2.2.1 ∈ am_T := am_T_mem 380 rfl rfl
set_option maxRecDepth 100000 in
theorem am_cd_X3_readWall : Cond.code am_m_X3_readWall.1 am_m_X3_readWall.2.1 am_m_X3_readWall.2.2.1 am_m_X3_readWall.2.2.2.1 ∈ am_T := am_T_mem 394 rfl rfl
set_option maxRecDepth 100000 in
theorem am_cd_X3_readPicture : Cond.code am_m_X3_readPicture.1 am_m_X3_readPicture.2.1 am_m_X3_readPicture.2.2.1 am_m_X3_readPicture.2.2.2.1 ∈ am_T := am_T_mem 409 rfl rfl
set_option maxRecDepth 100000 in
theorem am_cd_X3_readDoor : Cond.code am_m_X3_readDoor.1 am_m_X3_readDoor.2.1 am_m_X3_readDoor.2.2.1 am_m_X3_readDoor.2.2.2.1 ∈ am_T := am_T_mem 429 rfl rfl
set_option maxRecDepth 100000 in
theorem am_cd_X3_readComing : Cond.code am_m_X3_readComing.1 am_m_X3_readComing.2.1 am_m_X3_readComing.2.2.1 am_m_X3_readComing.2.2.2.1 ∈ am_T := am_T_mem 437 rfl rfl
set_option maxRecDepth 100000 in
theorem am_cd_X3_readFirst : Cond.code am_m_X3_readFirst.1 am_m_X3_readFirst.2.1 am_m_X3_readFirst.2.2.1 am_m_X3_readFirst.2.2.2.1 ∈ am_T := am_T_mem 445 rfl rfl
set_option maxRecDepth 100000 in
theorem am_cd_X3_refuseTakenCell : Cond.code am_m_X3_refuseTakenCell.1 am_m_X3_refuseTakenCell.2.1 am_m_X3_refuseTakenCell.2.2.1 am_m_X3_refuseTakenCell.2.2.2.1 ∈ am_T := am_T_mem 413 rfl rfl
set_option maxRecDepth 100000 in
theorem am_cd_X3_readNumber : Cond.code am_m_X3_readNumber.1 am_m_X3_readNumber.2.1 am_m_X3_readNumber.2.2.1 am_m_X3_readNumber.2.2.2.1 ∈ am_T := am_T_mem 398 rfl rfl
set_option maxRecDepth 100000 in
theorem am_cd_X3_readEnd : Cond.code am_m_X3_readEnd.1 am_m_X3_readEnd.2.1 am_m_X3_readEnd.2.2.1 am_m_X3_readEnd.2.2.2.1 ∈ am_T := am_T_mem 405 rfl rfl
set_option maxRecDepth 100000 in
theorem am_cd_X4_clear : Cond.code am_m_X4_clear.1 am_m_X4_clear.2.1 am_m_X4_clear.2.2.1 am_m_X4_clear.2.2.2.1 ∈ am_T := am_T_mem 368 rfl rfl
set_option maxRecDepth 100000 in
theorem am_cd_X4_copyFrom : Cond.code am_m_X4_copyFrom.1 am_m_X4_copyFrom.2.1 am_m_X4_copyFrom.2.2.1 am_m_X4_copyFrom.2.2.2.1 ∈ am_T := am_T_mem 464 rfl rfl
set_option maxRecDepth 100000 in
theorem am_cd_X4_addPicture : Cond.code am_m_X4_addPicture.1 am_m_X4_addPicture.2.1 am_m_X4_addPicture.2.2.1 am_m_X4_addPicture.2.2.2.1 ∈ am_T := am_T_mem 425 rfl rfl
set_option maxRecDepth 100000 in
theorem am_cd_X4_has : Cond.code am_m_X4_has.1 am_m_X4_has.2.1 am_m_X4_has.2.2.1 am_m_X4_has.2.2.2.1 ∈ am_T := am_T_mem 449 rfl rfl
set_option maxRecDepth 100000 in
theorem am_cd_X4_isBlind : Cond.code am_m_X4_isBlind.1 am_m_X4_isBlind.2.1 am_m_X4_isBlind.2.2.1 am_m_X4_isBlind.2.2.2.1 ∈ am_T := am_T_mem 453 rfl rfl
set_option maxRecDepth 100000 in
theorem am_cd_X4_isTurnedToWall : Cond.code am_m_X4_isTurnedToWall.1 am_m_X4_isTurnedToWall.2.1 am_m_X4_isTurnedToWall.2.2.1 am_m_X4_isTurnedToWall.2.2.2.1 ∈ am_T := am_T_mem 480 rfl rfl
set_option maxRecDepth 100000 in
theorem am_cd_X4_turnToWall : Cond.code am_m_X4_turnToWall.1 am_m_X4_turnToWall.2.1 am_m_X4_turnToWall.2.2.1 am_m_X4_turnToWall.2.2.2.1 ∈ am_T := am_T_mem 544 rfl rfl
set_option maxRecDepth 100000 in
theorem am_cd_X4_whatIsOn : Cond.code am_m_X4_whatIsOn.1 am_m_X4_whatIsOn.2.1 am_m_X4_whatIsOn.2.2.1 am_m_X4_whatIsOn.2.2.2.1 ∈ am_T := am_T_mem 417 rfl rfl
set_option maxRecDepth 100000 in
theorem am_cd_X4_lookAll : Cond.code am_m_X4_lookAll.1 am_m_X4_lookAll.2.1 am_m_X4_lookAll.2.2.1 am_m_X4_lookAll.2.2.2.1 ∈ am_T := am_T_mem 471 rfl rfl
set_option maxRecDepth 100000 in
theorem am_cd_X4_lookTo : Cond.code am_m_X4_lookTo.1 am_m_X4_lookTo.2.1 am_m_X4_lookTo.2.2.1 am_m_X4_lookTo.2.2.2.1 ∈ am_T := am_T_mem 535 rfl rfl
set_option maxRecDepth 100000 in
theorem am_cd_X4_lookOf : Cond.code am_m_X4_lookOf.1 am_m_X4_lookOf.2.1 am_m_X4_lookOf.2.2.1 am_m_X4_lookOf.2.2.2.1 ∈ am_T := am_T_mem 475 rfl rfl
set_option maxRecDepth 100000 in
theorem am_cd_X4_knownToSomebody : Cond.code am_m_X4_knownToSomebody.1 am_m_X4_knownToSomebody.2.1 am_m_X4_knownToSomebody.2.2.1 am_m_X4_knownToSomebody.2.2.2.1 ∈ am_T := am_T_mem 506 rfl rfl
set_option maxRecDepth 100000 in
theorem am_cd_X4_openTo : Cond.code am_m_X4_openTo.1 am_m_X4_openTo.2.1 am_m_X4_openTo.2.2.1 am_m_X4_openTo.2.2.2.1 ∈ am_T := am_T_mem 570 rfl rfl
set_option maxRecDepth 100000 in
theorem am_cd_X4_sourceOf : Cond.code am_m_X4_sourceOf.1 am_m_X4_sourceOf.2.1 am_m_X4_sourceOf.2.2.1 am_m_X4_sourceOf.2.2.2.1 ∈ am_T := am_T_mem 562 rfl rfl
set_option maxRecDepth 100000 in
theorem am_cd_X4_passOneHour : Cond.code am_m_X4_passOneHour.1 am_m_X4_passOneHour.2.1 am_m_X4_passOneHour.2.2.1 am_m_X4_passOneHour.2.2.2.1 ∈ am_T := am_T_mem 558 rfl rfl
set_option maxRecDepth 100000 in
theorem am_cd_X4_hoursUntil : Cond.code am_m_X4_hoursUntil.1 am_m_X4_hoursUntil.2.1 am_m_X4_hoursUntil.2.2.1 am_m_X4_hoursUntil.2.2.2.1 ∈ am_T := am_T_mem 598 rfl rfl
set_option maxRecDepth 100000 in
theorem am_cd_X4_knownBehind : Cond.code am_m_X4_knownBehind.1 am_m_X4_knownBehind.2.1 am_m_X4_knownBehind.2.2.1 am_m_X4_knownBehind.2.2.2.1 ∈ am_T := am_T_mem 669 rfl rfl
set_option maxRecDepth 100000 in
theorem am_cd_X4_isKnownBehind : Cond.code am_m_X4_isKnownBehind.1 am_m_X4_isKnownBehind.2.1 am_m_X4_isKnownBehind.2.2.1 am_m_X4_isKnownBehind.2.2.2.1 ∈ am_T := am_T_mem 621 rfl rfl
set_option maxRecDepth 100000 in
theorem am_cd_X4_draw : Cond.code am_m_X4_draw.1 am_m_X4_draw.2.1 am_m_X4_draw.2.2.1 am_m_X4_draw.2.2.2.1 ∈ am_T := am_T_mem 582 rfl rfl
set_option maxRecDepth 100000 in
theorem am_cd_X4_dustByDraw : Cond.code am_m_X4_dustByDraw.1 am_m_X4_dustByDraw.2.1 am_m_X4_dustByDraw.2.2.1 am_m_X4_dustByDraw.2.2.2.1 ∈ am_T := am_T_mem 578 rfl rfl
set_option maxRecDepth 100000 in
theorem am_cd_X5_wish : Cond.code am_m_X5_wish.1 am_m_X5_wish.2.1 am_m_X5_wish.2.2.1 am_m_X5_wish.2.2.2.1 ∈ am_T := am_T_mem 634 rfl rfl
set_option maxRecDepth 100000 in
theorem am_cd_X5_fewest : Cond.code am_m_X5_fewest.1 am_m_X5_fewest.2.1 am_m_X5_fewest.2.2.1 am_m_X5_fewest.2.2.2.1 ∈ am_T := am_T_mem 638 rfl rfl
set_option maxRecDepth 100000 in
theorem am_cd_X5_canTurnOne : Cond.code am_m_X5_canTurnOne.1 am_m_X5_canTurnOne.2.1 am_m_X5_canTurnOne.2.2.1 am_m_X5_canTurnOne.2.2.2.1 ∈ am_T := am_T_mem 649 rfl rfl
set_option maxRecDepth 100000 in
theorem am_cd_X5_canTurnTwo : Cond.code am_m_X5_canTurnTwo.1 am_m_X5_canTurnTwo.2.1 am_m_X5_canTurnTwo.2.2.1 am_m_X5_canTurnTwo.2.2.2.1 ∈ am_T := am_T_mem 653 rfl rfl
set_option maxRecDepth 100000 in
theorem am_cd_X5_isFulfilled : Cond.code am_m_X5_isFulfilled.1 am_m_X5_isFulfilled.2.1 am_m_X5_isFulfilled.2.2.1 am_m_X5_isFulfilled.2.2.2.1 ∈ am_T := am_T_mem 643 rfl rfl
set_option maxRecDepth 100000 in
theorem am_cd_X6_feed : Cond.code am_m_X6_feed.1 am_m_X6_feed.2.1 am_m_X6_feed.2.2.1 am_m_X6_feed.2.2.2.1 ∈ am_T := am_T_mem 346 rfl rfl
set_option maxRecDepth 100000 in
theorem am_cd_X6_house : Cond.code am_m_X6_house.1 am_m_X6_house.2.1 am_m_X6_house.2.2.1 am_m_X6_house.2.2.2.1 ∈ am_T := am_T_mem 356 rfl rfl
set_option maxRecDepth 100000 in
theorem am_cd_X6_fault : Cond.code am_m_X6_fault.1 am_m_X6_fault.2.1 am_m_X6_fault.2.2.1 am_m_X6_fault.2.2.2.1 ∈ am_T := am_T_mem 498 rfl rfl
set_option maxRecDepth 100000 in
theorem am_cd_X6_told : Cond.code am_m_X6_told.1 am_m_X6_told.2.1 am_m_X6_told.2.2.1 am_m_X6_told.2.2.2.1 ∈ am_T := am_T_mem 502 rfl rfl
set_option maxRecDepth 100000 in
theorem am_cd_X6_picture : Cond.code am_m_X6_picture.1 am_m_X6_picture.2.1 am_m_X6_picture.2.2.1 am_m_X6_picture.2.2.2.1 ∈ am_T := am_T_mem 510 rfl rfl
set_option maxRecDepth 100000 in
theorem am_cd_X6_on : Cond.code am_m_X6_on.1 am_m_X6_on.2.1 am_m_X6_on.2.2.1 am_m_X6_on.2.2.2.1 ∈ am_T := am_T_mem 516 rfl rfl
set_option maxRecDepth 100000 in
theorem am_cd_X6_coming : Cond.code am_m_X6_coming.1 am_m_X6_coming.2.1 am_m_X6_coming.2.2.1 am_m_X6_coming.2.2.2.1 ∈ am_T := am_T_mem 522 rfl rfl
set_option maxRecDepth 100000 in
theorem am_cd_X6_hang : Cond.code am_m_X6_hang.1 am_m_X6_hang.2.1 am_m_X6_hang.2.2.1 am_m_X6_hang.2.2.2.1 ∈ am_T := am_T_mem 526 rfl rfl
set_option maxRecDepth 100000 in
theorem am_cd_X6_turn : Cond.code am_m_X6_turn.1 am_m_X6_turn.2.1 am_m_X6_turn.2.2.1 am_m_X6_turn.2.2.2.1 ∈ am_T := am_T_mem 531 rfl rfl
set_option maxRecDepth 100000 in
theorem am_cd_X6_wall : Cond.code am_m_X6_wall.1 am_m_X6_wall.2.1 am_m_X6_wall.2.2.1 am_m_X6_wall.2.2.2.1 ∈ am_T := am_T_mem 539 rfl rfl
set_option maxRecDepth 100000 in
theorem am_cd_X6_hour : Cond.code am_m_X6_hour.1 am_m_X6_hour.2.1 am_m_X6_hour.2.2.1 am_m_X6_hour.2.2.2.1 ∈ am_T := am_T_mem 548 rfl rfl
set_option maxRecDepth 100000 in
theorem am_cd_X6_drift : Cond.code am_m_X6_drift.1 am_m_X6_drift.2.1 am_m_X6_drift.2.2.1 am_m_X6_drift.2.2.2.1 ∈ am_T := am_T_mem 574 rfl rfl
set_option maxRecDepth 100000 in
theorem am_cd_X6_when : Cond.code am_m_X6_when.1 am_m_X6_when.2.1 am_m_X6_when.2.2.1 am_m_X6_when.2.2.2.1 ∈ am_T := am_T_mem 591 rfl rfl
set_option maxRecDepth 100000 in
theorem am_cd_X6_hidden : Cond.code am_m_X6_hidden.1 am_m_X6_hidden.2.1 am_m_X6_hidden.2.2.1 am_m_X6_hidden.2.2.2.1 ∈ am_T := am_T_mem 612 rfl rfl
set_option maxRecDepth 100000 in
theorem am_cd_X6_turns : Cond.code am_m_X6_turns.1 am_m_X6_turns.2.1 am_m_X6_turns.2.2.1 am_m_X6_turns.2.2.2.1 ∈ am_T := am_T_mem 626 rfl rfl
set_option maxRecDepth 100000 in
theorem am_cd_X6_walled : Cond.code am_m_X6_walled.1 am_m_X6_walled.2.1 am_m_X6_walled.2.2.1 am_m_X6_walled.2.2.2.1 ∈ am_T := am_T_mem 657 rfl rfl
set_option maxRecDepth 100000 in
theorem am_cd_X6_kinds : Cond.code am_m_X6_kinds.1 am_m_X6_kinds.2.1 am_m_X6_kinds.2.2.1 am_m_X6_kinds.2.2.2.1 ∈ am_T := am_T_mem 665 rfl rfl
set_option maxRecDepth 100000 in
theorem am_cd_X6_all : Cond.code am_m_X6_all.1 am_m_X6_all.2.1 am_m_X6_all.2.2.1 am_m_X6_all.2.2.2.1 ∈ am_T := am_T_mem 673 rfl rfl
set_option maxRecDepth 100000 in
theorem am_cd_X6_common : Cond.code am_m_X6_common.1 am_m_X6_common.2.1 am_m_X6_common.2.2.1 am_m_X6_common.2.2.2.1 ∈ am_T := am_T_mem 680 rfl rfl
set_option maxRecDepth 100000 in
theorem am_cd_X6_safe : Cond.code am_m_X6_safe.1 am_m_X6_safe.2.1 am_m_X6_safe.2.2.1 am_m_X6_safe.2.2.2.1 ∈ am_T := am_T_mem 684 rfl rfl
set_option maxRecDepth 100000 in
theorem am_cd_X6_ask : Cond.code am_m_X6_ask.1 am_m_X6_ask.2.1 am_m_X6_ask.2.2.1 am_m_X6_ask.2.2.2.1 ∈ am_T := am_T_mem 690 rfl rfl
set_option maxRecDepth 100000 in
theorem am_cd_X6_came : Cond.code am_m_X6_came.1 am_m_X6_came.2.1 am_m_X6_came.2.2.1 am_m_X6_came.2.2.2.1 ∈ am_T := am_T_mem 699 rfl rfl
set_option maxRecDepth 100000 in
theorem am_cd_X6_next : Cond.code am_m_X6_next.1 am_m_X6_next.2.1 am_m_X6_next.2.2.1 am_m_X6_next.2.2.2.1 ∈ am_T := am_T_mem 734 rfl rfl
set_option maxRecDepth 100000 in
theorem am_cd_X6_write : Cond.code am_m_X6_write.1 am_m_X6_write.2.1 am_m_X6_write.2.2.1 am_m_X6_write.2.2.2.1 ∈ am_T := am_T_mem 750 rfl rfl
set_option maxRecDepth 100000 in
theorem am_cd_X6_tear : Cond.code am_m_X6_tear.1 am_m_X6_tear.2.1 am_m_X6_tear.2.2.1 am_m_X6_tear.2.2.2.1 ∈ am_T := am_T_mem 758 rfl rfl
set_option maxRecDepth 100000 in
theorem am_cd_X6_judge : Cond.code am_m_X6_judge.1 am_m_X6_judge.2.1 am_m_X6_judge.2.2.1 am_m_X6_judge.2.2.2.1 ∈ am_T := am_T_mem 762 rfl rfl
set_option maxRecDepth 100000 in
theorem am_cd_X6_seed : Cond.code am_m_X6_seed.1 am_m_X6_seed.2.1 am_m_X6_seed.2.2.1 am_m_X6_seed.2.2.2.1 ∈ am_T := am_T_mem 771 rfl rfl
set_option maxRecDepth 100000 in
theorem am_cd_X6_keep : Cond.code am_m_X6_keep.1 am_m_X6_keep.2.1 am_m_X6_keep.2.2.1 am_m_X6_keep.2.2.2.1 ∈ am_T := am_T_mem 775 rfl rfl
set_option maxRecDepth 100000 in
theorem am_cd_X6_goBack : Cond.code am_m_X6_goBack.1 am_m_X6_goBack.2.1 am_m_X6_goBack.2.2.1 am_m_X6_goBack.2.2.2.1 ∈ am_T := am_T_mem 783 rfl rfl
set_option maxRecDepth 100000 in
theorem am_cd_X6_image : Cond.code am_m_X6_image.1 am_m_X6_image.2.1 am_m_X6_image.2.2.1 am_m_X6_image.2.2.2.1 ∈ am_T := am_T_mem 779 rfl rfl
set_option maxRecDepth 100000 in
theorem am_cd_X6_arePictures : Cond.code am_m_X6_arePictures.1 am_m_X6_arePictures.2.1 am_m_X6_arePictures.2.2.1 am_m_X6_arePictures.2.2.2.1 ∈ am_T := am_T_mem 630 rfl rfl
set_option maxRecDepth 100000 in
theorem am_cd_X6_refusalOfHours : Cond.code am_m_X6_refusalOfHours.1 am_m_X6_refusalOfHours.2.1 am_m_X6_refusalOfHours.2.2.1 am_m_X6_refusalOfHours.2.2.2.1 ∈ am_T := am_T_mem 552 rfl rfl
set_option maxRecDepth 100000 in
theorem am_cd_X6_staysAwayBy : Cond.code am_m_X6_staysAwayBy.1 am_m_X6_staysAwayBy.2.1 am_m_X6_staysAwayBy.2.2.1 am_m_X6_staysAwayBy.2.2.2.1 ∈ am_T := am_T_mem 661 rfl rfl
set_option maxRecDepth 100000 in
theorem am_cd_X6_isThing : Cond.code am_m_X6_isThing.1 am_m_X6_isThing.2.1 am_m_X6_isThing.2.2.1 am_m_X6_isThing.2.2.2.1 ∈ am_T := am_T_mem 594 rfl rfl
set_option maxRecDepth 100000 in
theorem am_cd_X6_hoursOrNone : Cond.code am_m_X6_hoursOrNone.1 am_m_X6_hoursOrNone.2.1 am_m_X6_hoursOrNone.2.2.1 am_m_X6_hoursOrNone.2.2.2.1 ∈ am_T := am_T_mem 608 rfl rfl
set_option maxRecDepth 100000 in
theorem am_cd_X6_holds : Cond.code am_m_X6_holds.1 am_m_X6_holds.2.1 am_m_X6_holds.2.2.1 am_m_X6_holds.2.2.2.1 ∈ am_T := am_T_mem 456 rfl rfl
set_option maxRecDepth 100000 in
theorem am_cd_X7_in : Cond.code am_m_X7_in.1 am_m_X7_in.2.1 am_m_X7_in.2.2.1 am_m_X7_in.2.2.2.1 ∈ am_T := am_T_mem 943 rfl rfl
set_option maxRecDepth 100000 in
theorem am_cd_X7_has : Cond.code am_m_X7_has.1 am_m_X7_has.2.1 am_m_X7_has.2.2.1 am_m_X7_has.2.2.2.1 ∈ am_T := am_T_mem 1002 rfl rfl
set_option maxRecDepth 100000 in
theorem am_cd_X7_bits : Cond.code am_m_X7_bits.1 am_m_X7_bits.2.1 am_m_X7_bits.2.2.1 am_m_X7_bits.2.2.2.1 ∈ am_T := am_T_mem 1160 rfl rfl
set_option maxRecDepth 100000 in
theorem am_cd_X7_isPicture : Cond.code am_m_X7_isPicture.1 am_m_X7_isPicture.2.1 am_m_X7_isPicture.2.2.1 am_m_X7_isPicture.2.2.2.1 ∈ am_T := am_T_mem 1026 rfl rfl
set_option maxRecDepth 100000 in
theorem am_cd_X7_isThing : Cond.code am_m_X7_isThing.1 am_m_X7_isThing.2.1 am_m_X7_isThing.2.2.1 am_m_X7_isThing.2.2.2.1 ∈ am_T := am_T_mem 1107 rfl rfl
set_option maxRecDepth 100000 in
theorem am_cd_X7_isCell : Cond.code am_m_X7_isCell.1 am_m_X7_isCell.2.1 am_m_X7_isCell.2.2.1 am_m_X7_isCell.2.2.2.1 ∈ am_T := am_T_mem 1035 rfl rfl
set_option maxRecDepth 100000 in
theorem am_cd_X7_isSet : Cond.code am_m_X7_isSet.1 am_m_X7_isSet.2.1 am_m_X7_isSet.2.2.1 am_m_X7_isSet.2.2.2.1 ∈ am_T := am_T_mem 1132 rfl rfl
set_option maxRecDepth 100000 in
theorem am_cd_X7_feed : Cond.code am_m_X7_feed.1 am_m_X7_feed.2.1 am_m_X7_feed.2.2.1 am_m_X7_feed.2.2.2.1 ∈ am_T := am_T_mem 939 rfl rfl
set_option maxRecDepth 100000 in
theorem am_cd_X7_here : Cond.code am_m_X7_here.1 am_m_X7_here.2.1 am_m_X7_here.2.2.1 am_m_X7_here.2.2.2.1 ∈ am_T := am_T_mem 953 rfl rfl
set_option maxRecDepth 100000 in
theorem am_cd_X7_fails : Cond.code am_m_X7_fails.1 am_m_X7_fails.2.1 am_m_X7_fails.2.2.1 am_m_X7_fails.2.2.2.1 ∈ am_T := am_T_mem 961 rfl rfl
set_option maxRecDepth 100000 in
theorem am_cd_X7_takeNumber : Cond.code am_m_X7_takeNumber.1 am_m_X7_takeNumber.2.1 am_m_X7_takeNumber.2.2.1 am_m_X7_takeNumber.2.2.2.1 ∈ am_T := am_T_mem 973 rfl rfl
set_option maxRecDepth 100000 in
theorem am_cd_X7_into : Cond.code am_m_X7_into.1 am_m_X7_into.2.1 am_m_X7_into.2.2.1 am_m_X7_into.2.2.2.1 ∈ am_T := am_T_mem 969 rfl rfl
set_option maxRecDepth 100000 in
theorem am_cd_X7_isTaken : Cond.code am_m_X7_isTaken.1 am_m_X7_isTaken.2.1 am_m_X7_isTaken.2.2.1 am_m_X7_isTaken.2.2.2.1 ∈ am_T := am_T_mem 987 rfl rfl
set_option maxRecDepth 100000 in
theorem am_cd_X7_takeCell : Cond.code am_m_X7_takeCell.1 am_m_X7_takeCell.2.1 am_m_X7_takeCell.2.2.1 am_m_X7_takeCell.2.2.2.1 ∈ am_T := am_T_mem 983 rfl rfl
set_option maxRecDepth 100000 in
theorem am_cd_X7_takeWall : Cond.code am_m_X7_takeWall.1 am_m_X7_takeWall.2.1 am_m_X7_takeWall.2.2.1 am_m_X7_takeWall.2.2.2.1 ∈ am_T := am_T_mem 965 rfl rfl
set_option maxRecDepth 100000 in
theorem am_cd_X7_takePicture : Cond.code am_m_X7_takePicture.1 am_m_X7_takePicture.2.1 am_m_X7_takePicture.2.2.1 am_m_X7_takePicture.2.2.2.1 ∈ am_T := am_T_mem 979 rfl rfl
set_option maxRecDepth 100000 in
theorem am_cd_X7_takeDoor : Cond.code am_m_X7_takeDoor.1 am_m_X7_takeDoor.2.1 am_m_X7_takeDoor.2.2.1 am_m_X7_takeDoor.2.2.2.1 ∈ am_T := am_T_mem 991 rfl rfl
set_option maxRecDepth 100000 in
theorem am_cd_X7_takeComing : Cond.code am_m_X7_takeComing.1 am_m_X7_takeComing.2.1 am_m_X7_takeComing.2.2.1 am_m_X7_takeComing.2.2.2.1 ∈ am_T := am_T_mem 995 rfl rfl
set_option maxRecDepth 100000 in
theorem am_cd_X7_takeSecret : Cond.code am_m_X7_takeSecret.1 am_m_X7_takeSecret.2.1 am_m_X7_takeSecret.2.2.1 am_m_X7_takeSecret.2.2.2.1 ∈ am_T := am_T_mem 999 rfl rfl
set_option maxRecDepth 100000 in
theorem am_cd_X7_takeClause : Cond.code am_m_X7_takeClause.1 am_m_X7_takeClause.2.1 am_m_X7_takeClause.2.2.1 am_m_X7_takeClause.2.2.2.1 ∈ am_T := am_T_mem 957 rfl rfl
set_option maxRecDepth 100000 in
theorem am_cd_X7_takeRead : Cond.code am_m_X7_takeRead.1 am_m_X7_takeRead.2.1 am_m_X7_takeRead.2.2.1 am_m_X7_takeRead.2.2.2.1 ∈ am_T := am_T_mem 1006 rfl rfl
set_option maxRecDepth 100000 in
theorem am_cd_X7_house : Cond.code am_m_X7_house.1 am_m_X7_house.2.1 am_m_X7_house.2.2.1 am_m_X7_house.2.2.2.1 ∈ am_T := am_T_mem 949 rfl rfl
set_option maxRecDepth 100000 in
theorem am_cd_X7_fault : Cond.code am_m_X7_fault.1 am_m_X7_fault.2.1 am_m_X7_fault.2.2.1 am_m_X7_fault.2.2.2.1 ∈ am_T := am_T_mem 1010 rfl rfl
set_option maxRecDepth 100000 in
theorem am_cd_X7_known : Cond.code am_m_X7_known.1 am_m_X7_known.2.1 am_m_X7_known.2.2.1 am_m_X7_known.2.2.2.1 ∈ am_T := am_T_mem 1018 rfl rfl
set_option maxRecDepth 100000 in
theorem am_cd_X7_told : Cond.code am_m_X7_told.1 am_m_X7_told.2.1 am_m_X7_told.2.2.1 am_m_X7_told.2.2.2.1 ∈ am_T := am_T_mem 1014 rfl rfl
set_option maxRecDepth 100000 in
theorem am_cd_X7_onCell : Cond.code am_m_X7_onCell.1 am_m_X7_onCell.2.1 am_m_X7_onCell.2.2.1 am_m_X7_onCell.2.2.2.1 ∈ am_T := am_T_mem 1039 rfl rfl
set_option maxRecDepth 100000 in
theorem am_cd_X7_looksAt : Cond.code am_m_X7_looksAt.1 am_m_X7_looksAt.2.1 am_m_X7_looksAt.2.2.1 am_m_X7_looksAt.2.2.2.1 ∈ am_T := am_T_mem 1031 rfl rfl
set_option maxRecDepth 100000 in
theorem am_cd_X7_picture : Cond.code am_m_X7_picture.1 am_m_X7_picture.2.1 am_m_X7_picture.2.2.1 am_m_X7_picture.2.2.2.1 ∈ am_T := am_T_mem 1022 rfl rfl
set_option maxRecDepth 100000 in
theorem am_cd_X7_on : Cond.code am_m_X7_on.1 am_m_X7_on.2.1 am_m_X7_on.2.2.1 am_m_X7_on.2.2.2.1 ∈ am_T := am_T_mem 1043 rfl rfl
set_option maxRecDepth 100000 in
theorem am_cd_X7_coming : Cond.code am_m_X7_coming.1 am_m_X7_coming.2.1 am_m_X7_coming.2.2.1 am_m_X7_coming.2.2.2.1 ∈ am_T := am_T_mem 1047 rfl rfl
set_option maxRecDepth 100000 in
theorem am_cd_X7_hang : Cond.code am_m_X7_hang.1 am_m_X7_hang.2.1 am_m_X7_hang.2.2.1 am_m_X7_hang.2.2.2.1 ∈ am_T := am_T_mem 1052 rfl rfl
set_option maxRecDepth 100000 in
theorem am_cd_X7_turn : Cond.code am_m_X7_turn.1 am_m_X7_turn.2.1 am_m_X7_turn.2.2.1 am_m_X7_turn.2.2.2.1 ∈ am_T := am_T_mem 1057 rfl rfl
set_option maxRecDepth 100000 in
theorem am_cd_X7_wall : Cond.code am_m_X7_wall.1 am_m_X7_wall.2.1 am_m_X7_wall.2.2.1 am_m_X7_wall.2.2.2.1 ∈ am_T := am_T_mem 1062 rfl rfl
set_option maxRecDepth 100000 in
theorem am_cd_X7_comes : Cond.code am_m_X7_comes.1 am_m_X7_comes.2.1 am_m_X7_comes.2.2.1 am_m_X7_comes.2.2.2.1 ∈ am_T := am_T_mem 1084 rfl rfl
set_option maxRecDepth 100000 in
theorem am_cd_X7_takesOver : Cond.code am_m_X7_takesOver.1 am_m_X7_takesOver.2.1 am_m_X7_takesOver.2.2.1 am_m_X7_takesOver.2.2.2.1 ∈ am_T := am_T_mem 1088 rfl rfl
set_option maxRecDepth 100000 in
theorem am_cd_X7_passBy : Cond.code am_m_X7_passBy.1 am_m_X7_passBy.2.1 am_m_X7_passBy.2.2.1 am_m_X7_passBy.2.2.2.1 ∈ am_T := am_T_mem 1080 rfl rfl
set_option maxRecDepth 100000 in
theorem am_cd_X7_pass : Cond.code am_m_X7_pass.1 am_m_X7_pass.2.1 am_m_X7_pass.2.2.1 am_m_X7_pass.2.2.2.1 ∈ am_T := am_T_mem 1076 rfl rfl
set_option maxRecDepth 100000 in
theorem am_cd_X7_hoursRefused : Cond.code am_m_X7_hoursRefused.1 am_m_X7_hoursRefused.2.1 am_m_X7_hoursRefused.2.2.1 am_m_X7_hoursRefused.2.2.2.1 ∈ am_T := am_T_mem 1070 rfl rfl
set_option maxRecDepth 100000 in
theorem am_cd_X7_hour : Cond.code am_m_X7_hour.1 am_m_X7_hour.2.1 am_m_X7_hour.2.2.1 am_m_X7_hour.2.2.2.1 ∈ am_T := am_T_mem 1066 rfl rfl
set_option maxRecDepth 100000 in
theorem am_cd_X7_draw : Cond.code am_m_X7_draw.1 am_m_X7_draw.2.1 am_m_X7_draw.2.2.1 am_m_X7_draw.2.2.2.1 ∈ am_T := am_T_mem 1096 rfl rfl
set_option maxRecDepth 100000 in
theorem am_cd_X7_drift : Cond.code am_m_X7_drift.1 am_m_X7_drift.2.1 am_m_X7_drift.2.2.1 am_m_X7_drift.2.2.2.1 ∈ am_T := am_T_mem 1092 rfl rfl
set_option maxRecDepth 100000 in
theorem am_cd_X7_save : Cond.code am_m_X7_save.1 am_m_X7_save.2.1 am_m_X7_save.2.2.1 am_m_X7_save.2.2.2.1 ∈ am_T := am_T_mem 1116 rfl rfl
set_option maxRecDepth 100000 in
theorem am_cd_X7_putBack : Cond.code am_m_X7_putBack.1 am_m_X7_putBack.2.1 am_m_X7_putBack.2.2.1 am_m_X7_putBack.2.2.2.1 ∈ am_T := am_T_mem 1124 rfl rfl
set_option maxRecDepth 100000 in
theorem am_cd_X7_knowAll : Cond.code am_m_X7_knowAll.1 am_m_X7_knowAll.2.1 am_m_X7_knowAll.2.2.1 am_m_X7_knowAll.2.2.2.1 ∈ am_T := am_T_mem 1120 rfl rfl
set_option maxRecDepth 100000 in
theorem am_cd_X7_hoursTill : Cond.code am_m_X7_hoursTill.1 am_m_X7_hoursTill.2.1 am_m_X7_hoursTill.2.2.1 am_m_X7_hoursTill.2.2.2.1 ∈ am_T := am_T_mem 1112 rfl rfl
set_option maxRecDepth 100000 in
theorem am_cd_X7_when : Cond.code am_m_X7_when.1 am_m_X7_when.2.1 am_m_X7_when.2.2.1 am_m_X7_when.2.2.2.1 ∈ am_T := am_T_mem 1104 rfl rfl
set_option maxRecDepth 100000 in
theorem am_cd_X7_all : Cond.code am_m_X7_all.1 am_m_X7_all.2.1 am_m_X7_all.2.2.1 am_m_X7_all.2.2.2.1 ∈ am_T := am_T_mem 1128 rfl rfl
set_option maxRecDepth 100000 in
theorem am_cd_X7_hidden : Cond.code am_m_X7_hidden.1 am_m_X7_hidden.2.1 am_m_X7_hidden.2.2.1 am_m_X7_hidden.2.2.2.1 ∈ am_T := am_T_mem 1136 rfl rfl
set_option maxRecDepth 100000 in
theorem am_cd_X7_isSo : Cond.code am_m_X7_isSo.1 am_m_X7_isSo.2.1 am_m_X7_isSo.2.2.1 am_m_X7_isSo.2.2.2.1 ∈ am_T := am_T_mem 1149 rfl rfl
set_option maxRecDepth 100000 in
theorem am_cd_X7_canTurn : Cond.code am_m_X7_canTurn.1 am_m_X7_canTurn.2.1 am_m_X7_canTurn.2.2.1 am_m_X7_canTurn.2.2.2.1 ∈ am_T := am_T_mem 1153 rfl rfl
set_option maxRecDepth 100000 in
theorem am_cd_X7_findTurns : Cond.code am_m_X7_findTurns.1 am_m_X7_findTurns.2.1 am_m_X7_findTurns.2.2.1 am_m_X7_findTurns.2.2.2.1 ∈ am_T := am_T_mem 1145 rfl rfl
set_option maxRecDepth 100000 in
theorem am_cd_X7_turns : Cond.code am_m_X7_turns.1 am_m_X7_turns.2.1 am_m_X7_turns.2.2.1 am_m_X7_turns.2.2.2.1 ∈ am_T := am_T_mem 1140 rfl rfl
set_option maxRecDepth 100000 in
theorem am_cd_X7_walled : Cond.code am_m_X7_walled.1 am_m_X7_walled.2.1 am_m_X7_walled.2.2.1 am_m_X7_walled.2.2.2.1 ∈ am_T := am_T_mem 1157 rfl rfl
set_option maxRecDepth 100000 in
theorem am_cd_X7_kinds : Cond.code am_m_X7_kinds.1 am_m_X7_kinds.2.1 am_m_X7_kinds.2.2.1 am_m_X7_kinds.2.2.2.1 ∈ am_T := am_T_mem 1164 rfl rfl
set_option maxRecDepth 100000 in
theorem am_cd_X7_common : Cond.code am_m_X7_common.1 am_m_X7_common.2.1 am_m_X7_common.2.2.1 am_m_X7_common.2.2.2.1 ∈ am_T := am_T_mem 1168 rfl rfl
set_option maxRecDepth 100000 in
theorem am_cd_X7_safe : Cond.code am_m_X7_safe.1 am_m_X7_safe.2.1 am_m_X7_safe.2.2.1 am_m_X7_safe.2.2.2.1 ∈ am_T := am_T_mem 1172 rfl rfl
set_option maxRecDepth 100000 in
theorem am_cd_X7_ask : Cond.code am_m_X7_ask.1 am_m_X7_ask.2.1 am_m_X7_ask.2.2.1 am_m_X7_ask.2.2.2.1 ∈ am_T := am_T_mem 1178 rfl rfl
set_option maxRecDepth 100000 in
theorem am_cd_X7_knowers : Cond.code am_m_X7_knowers.1 am_m_X7_knowers.2.1 am_m_X7_knowers.2.2.1 am_m_X7_knowers.2.2.2.1 ∈ am_T := am_T_mem 1190 rfl rfl
set_option maxRecDepth 100000 in
theorem am_cd_X7_findWays : Cond.code am_m_X7_findWays.1 am_m_X7_findWays.2.1 am_m_X7_findWays.2.2.1 am_m_X7_findWays.2.2.2.1 ∈ am_T := am_T_mem 1186 rfl rfl
set_option maxRecDepth 100000 in
theorem am_cd_X7_came : Cond.code am_m_X7_came.1 am_m_X7_came.2.1 am_m_X7_came.2.2.1 am_m_X7_came.2.2.2.1 ∈ am_T := am_T_mem 1182 rfl rfl
set_option maxRecDepth 100000 in
theorem am_cd_X7_next : Cond.code am_m_X7_next.1 am_m_X7_next.2.1 am_m_X7_next.2.2.1 am_m_X7_next.2.2.2.1 ∈ am_T := am_T_mem 1194 rfl rfl
set_option maxRecDepth 100000 in
theorem am_cd_X7_write : Cond.code am_m_X7_write.1 am_m_X7_write.2.1 am_m_X7_write.2.2.1 am_m_X7_write.2.2.2.1 ∈ am_T := am_T_mem 1198 rfl rfl
set_option maxRecDepth 100000 in
theorem am_cd_X7_tear : Cond.code am_m_X7_tear.1 am_m_X7_tear.2.1 am_m_X7_tear.2.2.1 am_m_X7_tear.2.2.2.1 ∈ am_T := am_T_mem 1202 rfl rfl
set_option maxRecDepth 100000 in
theorem am_cd_X7_judge : Cond.code am_m_X7_judge.1 am_m_X7_judge.2.1 am_m_X7_judge.2.2.1 am_m_X7_judge.2.2.2.1 ∈ am_T := am_T_mem 1206 rfl rfl
set_option maxRecDepth 100000 in
theorem am_cd_X7_seed : Cond.code am_m_X7_seed.1 am_m_X7_seed.2.1 am_m_X7_seed.2.2.1 am_m_X7_seed.2.2.2.1 ∈ am_T := am_T_mem 1210 rfl rfl
set_option maxRecDepth 100000 in
theorem am_cd_X7_keep : Cond.code am_m_X7_keep.1 am_m_X7_keep.2.1 am_m_X7_keep.2.2.1 am_m_X7_keep.2.2.2.1 ∈ am_T := am_T_mem 1214 rfl rfl
set_option maxRecDepth 100000 in
theorem am_cd_X7_goBack : Cond.code am_m_X7_goBack.1 am_m_X7_goBack.2.1 am_m_X7_goBack.2.2.1 am_m_X7_goBack.2.2.2.1 ∈ am_T := am_T_mem 1218 rfl rfl
set_option maxRecDepth 100000 in
theorem am_cd_J7_fill_53178 : Cond.code am_m_J7_fill_53178.1 am_m_J7_fill_53178.2.1 am_m_J7_fill_53178.2.2.1 am_m_J7_fill_53178.2.2.2.1 ∈ am_T := am_T_mem 745 rfl rfl
set_option maxRecDepth 100000 in
theorem am_code_ok : ∀ md ∈ am_ms0, Cond.code md.1 md.2.1 md.2.2.1 md.2.2.2.1 ∈ am_T := by
  show ∀ md ∈ [am_m_X0_empty, am_m_X0_addAsked, am_m_X0_addEntry, am_m_X0_fit, am_m_X0_firstWrong, am_m_X1_goThrough, am_m_X1_followChain, am_m_X1_knowersOf, am_m_X1_countWays, am_m_X1_wayNumber, am_m_X1_bestToAsk, am_m_X1_countKnowingWays, am_m_X2_clear, am_m_X2_hasCell, am_m_X2_doorOn, am_m_X2_addDoor, am_m_X2_addComing, am_m_X2_thingsOfComings, am_m_X2_thingsBy, am_m_X2_firstHourBy, am_m_X3_append, am_m_X3_empty, am_m_X3_readInto, am_m_X3_failAt, am_m_X3_letterHere, am_m_X3_skipBlanks, am_m_X3_isFigure, am_m_X3_isWord, am_m_X3_isOneTooMany, am_m_X3_readClause, am_m_X3_readWall, am_m_X3_readPicture, am_m_X3_readDoor, am_m_X3_readComing, am_m_X3_readFirst, am_m_X3_refuseTakenCell, am_m_X3_readNumber, am_m_X3_readEnd, am_m_X4_clear, am_m_X4_copyFrom, am_m_X4_addPicture, am_m_X4_has, am_m_X4_isBlind, am_m_X4_isTurnedToWall, am_m_X4_turnToWall, am_m_X4_whatIsOn, am_m_X4_lookAll, am_m_X4_lookTo, am_m_X4_lookOf, am_m_X4_knownToSomebody, am_m_X4_openTo, am_m_X4_sourceOf, am_m_X4_passOneHour, am_m_X4_hoursUntil, am_m_X4_knownBehind, am_m_X4_isKnownBehind, am_m_X4_draw, am_m_X4_dustByDraw, am_m_X5_wish, am_m_X5_fewest, am_m_X5_canTurnOne, am_m_X5_canTurnTwo, am_m_X5_isFulfilled, am_m_X6_feed, am_m_X6_house, am_m_X6_fault, am_m_X6_told, am_m_X6_picture, am_m_X6_on, am_m_X6_coming, am_m_X6_hang, am_m_X6_turn, am_m_X6_wall, am_m_X6_hour, am_m_X6_drift, am_m_X6_when, am_m_X6_hidden, am_m_X6_turns, am_m_X6_walled, am_m_X6_kinds, am_m_X6_all, am_m_X6_common, am_m_X6_safe, am_m_X6_ask, am_m_X6_came, am_m_X6_next, am_m_X6_write, am_m_X6_tear, am_m_X6_judge, am_m_X6_seed, am_m_X6_keep, am_m_X6_goBack, am_m_X6_image, am_m_X6_arePictures, am_m_X6_refusalOfHours, am_m_X6_staysAwayBy, am_m_X6_isThing, am_m_X6_hoursOrNone, am_m_X6_holds, am_m_X7_in, am_m_X7_has, am_m_X7_bits, am_m_X7_isPicture, am_m_X7_isThing, am_m_X7_isCell, am_m_X7_isSet, am_m_X7_feed, am_m_X7_here, am_m_X7_fails, am_m_X7_takeNumber, am_m_X7_into, am_m_X7_isTaken, am_m_X7_takeCell, am_m_X7_takeWall, am_m_X7_takePicture, am_m_X7_takeDoor, am_m_X7_takeComing, am_m_X7_takeSecret, am_m_X7_takeClause, am_m_X7_takeRead, am_m_X7_house, am_m_X7_fault, am_m_X7_known, am_m_X7_told, am_m_X7_onCell, am_m_X7_looksAt, am_m_X7_picture, am_m_X7_on, am_m_X7_coming, am_m_X7_hang, am_m_X7_turn, am_m_X7_wall, am_m_X7_comes, am_m_X7_takesOver, am_m_X7_passBy, am_m_X7_pass, am_m_X7_hoursRefused, am_m_X7_hour, am_m_X7_draw, am_m_X7_drift, am_m_X7_save, am_m_X7_putBack, am_m_X7_knowAll, am_m_X7_hoursTill, am_m_X7_when, am_m_X7_all, am_m_X7_hidden, am_m_X7_isSo, am_m_X7_canTurn, am_m_X7_findTurns, am_m_X7_turns, am_m_X7_walled, am_m_X7_kinds, am_m_X7_common, am_m_X7_safe, am_m_X7_ask, am_m_X7_knowers, am_m_X7_findWays, am_m_X7_came, am_m_X7_next, am_m_X7_write, am_m_X7_tear, am_m_X7_judge, am_m_X7_seed, am_m_X7_keep, am_m_X7_goBack, am_m_J7_fill_53178], _
  exact List.forall_mem_cons.mpr ⟨am_cd_X0_empty, List.forall_mem_cons.mpr ⟨am_cd_X0_addAsked, List.forall_mem_cons.mpr ⟨am_cd_X0_addEntry, List.forall_mem_cons.mpr ⟨am_cd_X0_fit, List.forall_mem_cons.mpr ⟨am_cd_X0_firstWrong, List.forall_mem_cons.mpr ⟨am_cd_X1_goThrough, List.forall_mem_cons.mpr ⟨am_cd_X1_followChain, List.forall_mem_cons.mpr ⟨am_cd_X1_knowersOf, List.forall_mem_cons.mpr ⟨am_cd_X1_countWays, List.forall_mem_cons.mpr ⟨am_cd_X1_wayNumber, List.forall_mem_cons.mpr ⟨am_cd_X1_bestToAsk, List.forall_mem_cons.mpr ⟨am_cd_X1_countKnowingWays, List.forall_mem_cons.mpr ⟨am_cd_X2_clear, List.forall_mem_cons.mpr ⟨am_cd_X2_hasCell, List.forall_mem_cons.mpr ⟨am_cd_X2_doorOn, List.forall_mem_cons.mpr ⟨am_cd_X2_addDoor, List.forall_mem_cons.mpr ⟨am_cd_X2_addComing, List.forall_mem_cons.mpr ⟨am_cd_X2_thingsOfComings, List.forall_mem_cons.mpr ⟨am_cd_X2_thingsBy, List.forall_mem_cons.mpr ⟨am_cd_X2_firstHourBy, List.forall_mem_cons.mpr ⟨am_cd_X3_append, List.forall_mem_cons.mpr ⟨am_cd_X3_empty, List.forall_mem_cons.mpr ⟨am_cd_X3_readInto, List.forall_mem_cons.mpr ⟨am_cd_X3_failAt, List.forall_mem_cons.mpr ⟨am_cd_X3_letterHere, List.forall_mem_cons.mpr ⟨am_cd_X3_skipBlanks, List.forall_mem_cons.mpr ⟨am_cd_X3_isFigure, List.forall_mem_cons.mpr ⟨am_cd_X3_isWord, List.forall_mem_cons.mpr ⟨am_cd_X3_isOneTooMany, List.forall_mem_cons.mpr ⟨am_cd_X3_readClause, List.forall_mem_cons.mpr ⟨am_cd_X3_readWall, List.forall_mem_cons.mpr ⟨am_cd_X3_readPicture, List.forall_mem_cons.mpr ⟨am_cd_X3_readDoor, List.forall_mem_cons.mpr ⟨am_cd_X3_readComing, List.forall_mem_cons.mpr ⟨am_cd_X3_readFirst, List.forall_mem_cons.mpr ⟨am_cd_X3_refuseTakenCell, List.forall_mem_cons.mpr ⟨am_cd_X3_readNumber, List.forall_mem_cons.mpr ⟨am_cd_X3_readEnd, List.forall_mem_cons.mpr ⟨am_cd_X4_clear, List.forall_mem_cons.mpr ⟨am_cd_X4_copyFrom, List.forall_mem_cons.mpr ⟨am_cd_X4_addPicture, List.forall_mem_cons.mpr ⟨am_cd_X4_has, List.forall_mem_cons.mpr ⟨am_cd_X4_isBlind, List.forall_mem_cons.mpr ⟨am_cd_X4_isTurnedToWall, List.forall_mem_cons.mpr ⟨am_cd_X4_turnToWall, List.forall_mem_cons.mpr ⟨am_cd_X4_whatIsOn, List.forall_mem_cons.mpr ⟨am_cd_X4_lookAll, List.forall_mem_cons.mpr ⟨am_cd_X4_lookTo, List.forall_mem_cons.mpr ⟨am_cd_X4_lookOf, List.forall_mem_cons.mpr ⟨am_cd_X4_knownToSomebody, List.forall_mem_cons.mpr ⟨am_cd_X4_openTo, List.forall_mem_cons.mpr ⟨am_cd_X4_sourceOf, List.forall_mem_cons.mpr ⟨am_cd_X4_passOneHour, List.forall_mem_cons.mpr ⟨am_cd_X4_hoursUntil, List.forall_mem_cons.mpr ⟨am_cd_X4_knownBehind, List.forall_mem_cons.mpr ⟨am_cd_X4_isKnownBehind, List.forall_mem_cons.mpr ⟨am_cd_X4_draw, List.forall_mem_cons.mpr ⟨am_cd_X4_dustByDraw, List.forall_mem_cons.mpr ⟨am_cd_X5_wish, List.forall_mem_cons.mpr ⟨am_cd_X5_fewest, List.forall_mem_cons.mpr ⟨am_cd_X5_canTurnOne, List.forall_mem_cons.mpr ⟨am_cd_X5_canTurnTwo, List.forall_mem_cons.mpr ⟨am_cd_X5_isFulfilled, List.forall_mem_cons.mpr ⟨am_cd_X6_feed, List.forall_mem_cons.mpr ⟨am_cd_X6_house, List.forall_mem_cons.mpr ⟨am_cd_X6_fault, List.forall_mem_cons.mpr ⟨am_cd_X6_told, List.forall_mem_cons.mpr ⟨am_cd_X6_picture, List.forall_mem_cons.mpr ⟨am_cd_X6_on, List.forall_mem_cons.mpr ⟨am_cd_X6_coming, List.forall_mem_cons.mpr ⟨am_cd_X6_hang, List.forall_mem_cons.mpr ⟨am_cd_X6_turn, List.forall_mem_cons.mpr ⟨am_cd_X6_wall, List.forall_mem_cons.mpr ⟨am_cd_X6_hour, List.forall_mem_cons.mpr ⟨am_cd_X6_drift, List.forall_mem_cons.mpr ⟨am_cd_X6_when, List.forall_mem_cons.mpr ⟨am_cd_X6_hidden, List.forall_mem_cons.mpr ⟨am_cd_X6_turns, List.forall_mem_cons.mpr ⟨am_cd_X6_walled, List.forall_mem_cons.mpr ⟨am_cd_X6_kinds, List.forall_mem_cons.mpr ⟨am_cd_X6_all, List.forall_mem_cons.mpr ⟨am_cd_X6_common, List.forall_mem_cons.mpr ⟨am_cd_X6_safe, List.forall_mem_cons.mpr ⟨am_cd_X6_ask, List.forall_mem_cons.mpr ⟨am_cd_X6_came, List.forall_mem_cons.mpr ⟨am_cd_X6_next, List.forall_mem_cons.mpr ⟨am_cd_X6_write, List.forall_mem_cons.mpr ⟨am_cd_X6_tear, List.forall_mem_cons.mpr ⟨am_cd_X6_judge, List.forall_mem_cons.mpr ⟨am_cd_X6_seed, List.forall_mem_cons.mpr ⟨am_cd_X6_keep, List.forall_mem_cons.mpr ⟨am_cd_X6_goBack, List.forall_mem_cons.mpr ⟨am_cd_X6_image, List.forall_mem_cons.mpr ⟨am_cd_X6_arePictures, List.forall_mem_cons.mpr ⟨am_cd_X6_refusalOfHours, List.forall_mem_cons.mpr ⟨am_cd_X6_staysAwayBy, List.forall_mem_cons.mpr ⟨am_cd_X6_isThing, List.forall_mem_cons.mpr ⟨am_cd_X6_hoursOrNone, List.forall_mem_cons.mpr ⟨am_cd_X6_holds, List.forall_mem_cons.mpr ⟨am_cd_X7_in, List.forall_mem_cons.mpr ⟨am_cd_X7_has, List.forall_mem_cons.mpr ⟨am_cd_X7_bits, List.forall_mem_cons.mpr ⟨am_cd_X7_isPicture, List.forall_mem_cons.mpr ⟨am_cd_X7_isThing, List.forall_mem_cons.mpr ⟨am_cd_X7_isCell, List.forall_mem_cons.mpr ⟨am_cd_X7_isSet, List.forall_mem_cons.mpr ⟨am_cd_X7_feed, List.forall_mem_cons.mpr ⟨am_cd_X7_here, List.forall_mem_cons.mpr ⟨am_cd_X7_fails, List.forall_mem_cons.mpr ⟨am_cd_X7_takeNumber, List.forall_mem_cons.mpr ⟨am_cd_X7_into, List.forall_mem_cons.mpr ⟨am_cd_X7_isTaken, List.forall_mem_cons.mpr ⟨am_cd_X7_takeCell, List.forall_mem_cons.mpr ⟨am_cd_X7_takeWall, List.forall_mem_cons.mpr ⟨am_cd_X7_takePicture, List.forall_mem_cons.mpr ⟨am_cd_X7_takeDoor, List.forall_mem_cons.mpr ⟨am_cd_X7_takeComing, List.forall_mem_cons.mpr ⟨am_cd_X7_takeSecret, List.forall_mem_cons.mpr ⟨am_cd_X7_takeClause, List.forall_mem_cons.mpr ⟨am_cd_X7_takeRead, List.forall_mem_cons.mpr ⟨am_cd_X7_house, List.forall_mem_cons.mpr ⟨am_cd_X7_fault, List.forall_mem_cons.mpr ⟨am_cd_X7_known, List.forall_mem_cons.mpr ⟨am_cd_X7_told, List.forall_mem_cons.mpr ⟨am_cd_X7_onCell, List.forall_mem_cons.mpr ⟨am_cd_X7_looksAt, List.forall_mem_cons.mpr ⟨am_cd_X7_picture, List.forall_mem_cons.mpr ⟨am_cd_X7_on, List.forall_mem_cons.mpr ⟨am_cd_X7_coming, List.forall_mem_cons.mpr ⟨am_cd_X7_hang, List.forall_mem_cons.mpr ⟨am_cd_X7_turn, List.forall_mem_cons.mpr ⟨am_cd_X7_wall, List.forall_mem_cons.mpr ⟨am_cd_X7_comes, List.forall_mem_cons.mpr ⟨am_cd_X7_takesOver, List.forall_mem_cons.mpr ⟨am_cd_X7_passBy, List.forall_mem_cons.mpr ⟨am_cd_X7_pass, List.forall_mem_cons.mpr ⟨am_cd_X7_hoursRefused, List.forall_mem_cons.mpr ⟨am_cd_X7_hour, List.forall_mem_cons.mpr ⟨am_cd_X7_draw, List.forall_mem_cons.mpr ⟨am_cd_X7_drift, List.forall_mem_cons.mpr ⟨am_cd_X7_save, List.forall_mem_cons.mpr ⟨am_cd_X7_putBack, List.forall_mem_cons.mpr ⟨am_cd_X7_knowAll, List.forall_mem_cons.mpr ⟨am_cd_X7_hoursTill, List.forall_mem_cons.mpr ⟨am_cd_X7_when, List.forall_mem_cons.mpr ⟨am_cd_X7_all, List.forall_mem_cons.mpr ⟨am_cd_X7_hidden, List.forall_mem_cons.mpr ⟨am_cd_X7_isSo, List.forall_mem_cons.mpr ⟨am_cd_X7_canTurn, List.forall_mem_cons.mpr ⟨am_cd_X7_findTurns, List.forall_mem_cons.mpr ⟨am_cd_X7_turns, List.forall_mem_cons.mpr ⟨am_cd_X7_walled, List.forall_mem_cons.mpr ⟨am_cd_X7_kinds, List.forall_mem_cons.mpr ⟨am_cd_X7_common, List.forall_mem_cons.mpr ⟨am_cd_X7_safe, List.forall_mem_cons.mpr ⟨am_cd_X7_ask, List.forall_mem_cons.mpr ⟨am_cd_X7_knowers, List.forall_mem_cons.mpr ⟨am_cd_X7_findWays, List.forall_mem_cons.mpr ⟨am_cd_X7_came, List.forall_mem_cons.mpr ⟨am_cd_X7_next, List.forall_mem_cons.mpr ⟨am_cd_X7_write, List.forall_mem_cons.mpr ⟨am_cd_X7_tear, List.forall_mem_cons.mpr ⟨am_cd_X7_judge, List.forall_mem_cons.mpr ⟨am_cd_X7_seed, List.forall_mem_cons.mpr ⟨am_cd_X7_keep, List.forall_mem_cons.mpr ⟨am_cd_X7_goBack, List.forall_mem_cons.mpr ⟨am_cd_J7_fill_53178, fun _ h => absurd h List.not_mem_nil⟩⟩⟩⟩⟩⟩⟩⟩⟩⟩⟩⟩⟩⟩⟩⟩⟩⟩⟩⟩⟩⟩⟩⟩⟩⟩⟩⟩⟩⟩⟩⟩⟩⟩⟩⟩⟩⟩⟩⟩⟩⟩⟩⟩⟩⟩⟩⟩⟩⟩⟩⟩⟩⟩⟩⟩⟩⟩⟩⟩⟩⟩⟩⟩⟩⟩⟩⟩⟩⟩⟩⟩⟩⟩⟩⟩⟩⟩⟩⟩⟩⟩⟩⟩⟩⟩⟩⟩⟩⟩⟩⟩⟩⟩⟩⟩⟩⟩⟩⟩⟩⟩⟩⟩⟩⟩⟩⟩⟩⟩⟩⟩⟩⟩⟩⟩⟩⟩⟩⟩⟩⟩⟩⟩⟩⟩⟩⟩⟩⟩⟩⟩⟩⟩⟩⟩⟩⟩⟩⟩⟩⟩⟩⟩⟩⟩⟩⟩⟩⟩⟩⟩⟩⟩⟩⟩⟩⟩⟩⟩⟩⟩⟩⟩⟩⟩⟩
set_option maxRecDepth 100000 in
theorem am_maxc_ok : Cond.code Lib.Math.max.name Lib.Math.max.code 2 (some .int) ∈ am_T := am_T_mem 676 rfl rfl
set_option maxRecDepth 100000 in
theorem am_minc_ok : Cond.code Lib.Math.min.name Lib.Math.min.code 2 (some .int) ∈ am_T := am_T_mem 706 rfl rfl
