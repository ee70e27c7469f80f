def lw_good : List Cond := lw_tbl.filter goodWord
theorem bq_mg {w : Cond} (i : Nat) (h : lw_tbl[i]? = some w) (hg : goodWord w = true) : w ∈ lw_good := List.mem_filter.mpr ⟨List.mem_of_getElem? h, hg⟩
theorem bq_tb1 {w : Cond} (h : w ∈ tables_1_1) : w ∈ tables_1 := List.mem_append_left _ h
theorem bq_tb2 {w : Cond} (h : w ∈ tables_1_2) : w ∈ tables_1 := List.mem_append_right _ (List.mem_append_left _ h)
theorem bq_tb3 {w : Cond} (h : w ∈ tables_1_3) : w ∈ tables_1 := List.mem_append_right _ (List.mem_append_right _ (List.mem_append_left _ h))
theorem bq_tb4 {w : Cond} (h : w ∈ tables_1_4) : w ∈ tables_1 := List.mem_append_right _ (List.mem_append_right _ (List.mem_append_right _ (List.mem_append_left _ h)))
theorem bq_tb5 {w : Cond} (h : w ∈ tables_1_5) : w ∈ tables_1 := List.mem_append_right _ (List.mem_append_right _ (List.mem_append_right _ (List.mem_append_right _ (List.mem_append_left _ h))))
theorem bq_tb6 {w : Cond} (h : w ∈ tables_1_6) : w ∈ tables_1 := List.mem_append_right _ (List.mem_append_right _ (List.mem_append_right _ (List.mem_append_right _ (List.mem_append_right _ h))))
theorem bq_tg {w : Cond} (h : w ∈ tables_1) (hg : goodWord w = true) : w ∈ lw_good := List.mem_filter.mpr ⟨List.mem_append_right _ h, hg⟩
theorem bq_mgs {ws : List Cond} (ps : List Nat) (h : ws = ps.filterMap (fun i => lw_tbl[i]?)) (hg : ws.all goodWord = true) : ∀ w ∈ ws, w ∈ lw_good := by
  intro w hw
  have h1 := List.all_eq_true.mp hg w hw
  rw [h] at hw
  obtain ⟨i, -, hi⟩ := List.mem_filterMap.mp hw
  exact bq_mg i hi h1
theorem sl_X2_readStep : Cond.selects RX2 yX2_readStep yX2_readStep ∈ lw_good := bq_mg 0 rfl rfl
theorem sl_X2_signAt : Cond.selects RX2 yX2_signAt yX2_signAt ∈ lw_good := bq_mg 1 rfl rfl
theorem sl_X2_readParallel : Cond.selects RX2 yX2_readParallel yX2_readParallel ∈ lw_good := bq_mg 2 rfl rfl
theorem sl_X2_readMove : Cond.selects RX2 yX2_readMove yX2_readMove ∈ lw_good := bq_mg 3 rfl rfl
theorem sl_X2_refuseSign : Cond.selects RX2 yX2_refuseSign yX2_refuseSign ∈ lw_good := bq_mg 4 rfl rfl
theorem sl_X2_takeMove : Cond.selects RX2 yX2_takeMove yX2_takeMove ∈ lw_good := bq_mg 5 rfl rfl
theorem sl_X2_readPause : Cond.selects RX2 yX2_readPause yX2_readPause ∈ lw_good := bq_mg 6 rfl rfl
theorem sl_X2_digitAt : Cond.selects RX2 yX2_digitAt yX2_digitAt ∈ lw_good := bq_mg 7 rfl rfl
theorem sl_X5_groupsNeeded : Cond.selects RX5 yX5_groupsNeeded yX5_groupsNeeded ∈ lw_good := bq_mg 8 rfl rfl
theorem sl_X5_placeCuts : Cond.selects RX5 yX5_placeCuts yX5_placeCuts ∈ lw_good := bq_mg 9 rfl rfl
theorem sl_X5_nameGroups : Cond.selects RX5 yX5_nameGroups yX5_nameGroups ∈ lw_good := bq_mg 10 rfl rfl
theorem sl_X0_switchAllOff : Cond.selects RX0 yX0_switchAllOff yX0_switchAllOff ∈ lw_good := bq_mg 11 rfl rfl
theorem sl_X4_makeDue : Cond.selects RX4 yX4_makeDue yX4_makeDue ∈ lw_good := bq_mg 12 rfl rfl
theorem sl_X7_checkStep : Cond.selects RX7 yX7_checkStep yX7_checkStep ∈ lw_good := bq_mg 14 rfl rfl
theorem sl_X7_checkSequence : Cond.selects RX7 yX7_checkSequence yX7_checkSequence ∈ lw_good := bq_mg 15 rfl rfl
theorem sl_X5_endsReached : Cond.selects RX5 yX5_endsReached yX5_endsReached ∈ lw_good := bq_mg 16 rfl rfl
theorem sl_X7_countValves : Cond.selects RX7 yX7_countValves yX7_countValves ∈ lw_good := bq_mg 17 rfl rfl
theorem sl_X3_completeSteps : Cond.selects RX3 yX3_completeSteps yX3_completeSteps ∈ lw_good := bq_mg 18 rfl rfl
theorem sl_X0_readySteps : Cond.selects RX0 yX0_readySteps yX0_readySteps ∈ lw_good := bq_mg 19 rfl rfl
theorem sl_X0_decideDirect : Cond.selects RX0 yX0_decideDirect yX0_decideDirect ∈ lw_good := bq_mg 20 rfl rfl
theorem sl_X0_switchOn : Cond.selects RX0 yX0_switchOn yX0_switchOn ∈ lw_good := bq_mg 21 rfl rfl
theorem sl_X0_decideCascade : Cond.selects RX0 yX0_decideCascade yX0_decideCascade ∈ lw_good := bq_mg 22 rfl rfl
theorem sl_X0_decideStepper : Cond.selects RX0 yX0_decideStepper yX0_decideStepper ∈ lw_good := bq_mg 23 rfl rfl
theorem sl_X3_shiftValves : Cond.selects RX3 yX3_shiftValves yX3_shiftValves ∈ lw_good := bq_mg 24 rfl rfl
theorem sl_X3_movePistons : Cond.selects RX3 yX3_movePistons yX3_movePistons ∈ lw_good := bq_mg 25 rfl rfl
theorem sl_X3_advanceTimers : Cond.selects RX3 yX3_advanceTimers yX3_advanceTimers ∈ lw_good := bq_mg 26 rfl rfl
theorem sl_X7_measureCycle : Cond.selects RX7 yX7_measureCycle yX7_measureCycle ∈ lw_good := bq_mg 27 rfl rfl
theorem sl_X7_explains : Cond.selects RX7 yX7_explains yX7_explains ∈ lw_good := bq_mg 28 rfl rfl
theorem sl_X7_runTrialFar : Cond.selects RX7 yX7_runTrialFar yX7_runTrialFar ∈ lw_good := bq_mg 29 rfl rfl
theorem sl_X8_rests : Cond.selects RX8 yX8_rests yX8_rests ∈ lw_good := bq_mg 30 rfl rfl
theorem sl_X8_firstWithMoves : Cond.selects RX8 yX8_firstWithMoves yX8_firstWithMoves ∈ lw_good := bq_mg 31 rfl rfl
theorem sl_X8_movesOf : Cond.selects RX8 yX8_movesOf yX8_movesOf ∈ lw_good := bq_mg 32 rfl rfl
theorem sl_X8_fails : Cond.selects RX8 yX8_fails yX8_fails ∈ lw_good := bq_mg 33 rfl rfl
theorem sl_X8_reads : Cond.selects RX8 yX8_reads yX8_reads ∈ lw_good := bq_mg 34 rfl rfl
theorem sl_X8_readsStep : Cond.selects RX8 yX8_readsStep yX8_readsStep ∈ lw_good := bq_mg 35 rfl rfl
theorem sl_X8_letter : Cond.selects RX8 yX8_letter yX8_letter ∈ lw_good := bq_mg 36 rfl rfl
theorem sl_X8_readsPause : Cond.selects RX8 yX8_readsPause yX8_readsPause ∈ lw_good := bq_mg 37 rfl rfl
theorem sl_X8_isDigit : Cond.selects RX8 yX8_isDigit yX8_isDigit ∈ lw_good := bq_mg 38 rfl rfl
theorem sl_X8_isMove : Cond.selects RX8 yX8_isMove yX8_isMove ∈ lw_good := bq_mg 39 rfl rfl
theorem sl_X8_failsAt : Cond.selects RX8 yX8_failsAt yX8_failsAt ∈ lw_good := bq_mg 40 rfl rfl
theorem sl_X8_notes : Cond.selects RX8 yX8_notes yX8_notes ∈ lw_good := bq_mg 41 rfl rfl
theorem sl_X8_divides : Cond.selects RX8 yX8_divides yX8_divides ∈ lw_good := bq_mg 42 rfl rfl
theorem sl_X8_areGroups : Cond.selects RX8 yX8_areGroups yX8_areGroups ∈ lw_good := bq_mg 43 rfl rfl
theorem sl_X8_isStep : Cond.selects RX8 yX8_isStep yX8_isStep ∈ lw_good := bq_mg 44 rfl rfl
theorem sl_X8_directionOf : Cond.selects RX8 yX8_directionOf yX8_directionOf ∈ lw_good := bq_mg 45 rfl rfl
theorem sl_X8_clashOf : Cond.selects RX8 yX8_clashOf yX8_clashOf ∈ lw_good := bq_mg 46 rfl rfl
theorem sl_X8_outBehind : Cond.selects RX8 yX8_outBehind yX8_outBehind ∈ lw_good := bq_mg 47 rfl rfl
theorem sl_X8_before : Cond.selects RX8 yX8_before yX8_before ∈ lw_good := bq_mg 48 rfl rfl
theorem sl_X8_groupFor : Cond.selects RX8 yX8_groupFor yX8_groupFor ∈ lw_good := bq_mg 49 rfl rfl
theorem sl_X8_lacks : Cond.selects RX8 yX8_lacks yX8_lacks ∈ lw_good := bq_mg 50 rfl rfl
theorem sl_X8_valvesOf : Cond.selects RX8 yX8_valvesOf yX8_valvesOf ∈ lw_good := bq_mg 51 rfl rfl
theorem sl_X8_ticksOnce : Cond.selects RX8 yX8_ticksOnce yX8_ticksOnce ∈ lw_good := bq_mg 52 rfl rfl
theorem sl_X8_decides : Cond.selects RX8 yX8_decides yX8_decides ∈ lw_good := bq_mg 53 rfl rfl
theorem sl_X8_isComplete : Cond.selects RX8 yX8_isComplete yX8_isComplete ∈ lw_good := bq_mg 54 rfl rfl
theorem sl_X8_senses : Cond.selects RX8 yX8_senses yX8_senses ∈ lw_good := bq_mg 55 rfl rfl
theorem sl_X8_notesEvent : Cond.selects RX8 yX8_notesEvent yX8_notesEvent ∈ lw_good := bq_mg 56 rfl rfl
theorem sl_X8_ofCylinder : Cond.selects RX8 yX8_ofCylinder yX8_ofCylinder ∈ lw_good := bq_mg 57 rfl rfl
theorem sl_X8_ofEvent : Cond.selects RX8 yX8_ofEvent yX8_ofEvent ∈ lw_good := bq_mg 58 rfl rfl
theorem sl_X8_cycleOf : Cond.selects RX8 yX8_cycleOf yX8_cycleOf ∈ lw_good := bq_mg 59 rfl rfl
theorem sl_X8_tries : Cond.selects RX8 yX8_tries yX8_tries ∈ lw_good := bq_mg 60 rfl rfl
theorem sl_X8_explains : Cond.selects RX8 yX8_explains yX8_explains ∈ lw_good := bq_mg 61 rfl rfl
theorem in_L : Cond.initialized RL ∈ lw_good := bq_tg (bq_tb1 (List.mem_of_getElem? (i := 0) rfl)) rfl
theorem in_X7 : Cond.initialized RX7 ∈ lw_good := bq_tg (bq_tb1 (List.mem_of_getElem? (i := 1) rfl)) rfl
theorem in_X5 : Cond.initialized RX5 ∈ lw_good := bq_tg (bq_tb1 (List.mem_of_getElem? (i := 2) rfl)) rfl
theorem in_X2 : Cond.initialized RX2 ∈ lw_good := bq_tg (bq_tb1 (List.mem_of_getElem? (i := 3) rfl)) rfl
theorem in_X3 : Cond.initialized RX3 ∈ lw_good := bq_tg (bq_tb1 (List.mem_of_getElem? (i := 4) rfl)) rfl
theorem in_X0 : Cond.initialized RX0 ∈ lw_good := bq_tg (bq_tb1 (List.mem_of_getElem? (i := 5) rfl)) rfl
theorem in_X1 : Cond.initialized RX1 ∈ lw_good := bq_tg (bq_tb1 (List.mem_of_getElem? (i := 6) rfl)) rfl
theorem in_X4 : Cond.initialized RX4 ∈ lw_good := bq_tg (bq_tb1 (List.mem_of_getElem? (i := 7) rfl)) rfl
theorem in_J7 : Cond.initialized RJ7 ∈ lw_good := bq_tg (bq_tb1 (List.mem_of_getElem? (i := 8) rfl)) rfl
theorem in_X6 : Cond.initialized RX6 ∈ lw_good := bq_tg (bq_tb1 (List.mem_of_getElem? (i := 9) rfl)) rfl
theorem in_X8 : Cond.initialized RX8 ∈ lw_good := bq_tg (bq_tb1 (List.mem_of_getElem? (i := 10) rfl)) rfl
theorem in_Exception : Cond.initialized "java/lang/Exception" ∈ lw_good := bq_tg (bq_tb1 (List.mem_of_getElem? (i := 12) rfl)) rfl
theorem in_RuntimeException : Cond.initialized "java/lang/RuntimeException" ∈ lw_good := bq_tg (bq_tb1 (List.mem_of_getElem? (i := 13) rfl)) rfl
theorem in_IllegalArgumentException : Cond.initialized "java/lang/IllegalArgumentException" ∈ lw_good := bq_tg (bq_tb1 (List.mem_of_getElem? (i := 14) rfl)) rfl
theorem in_IllegalStateException : Cond.initialized "java/lang/IllegalStateException" ∈ lw_good := bq_tg (bq_tb1 (List.mem_of_getElem? (i := 15) rfl)) rfl
theorem in_IndexOutOfBoundsException : Cond.initialized "java/lang/IndexOutOfBoundsException" ∈ lw_good := bq_tg (bq_tb1 (List.mem_of_getElem? (i := 16) rfl)) rfl
theorem in_J6 : Cond.initialized RJ6 ∈ lw_good := bq_tg (bq_tb1 (List.mem_of_getElem? (i := 17) rfl)) rfl
theorem in_J9 : Cond.initialized RJ9 ∈ lw_good := bq_tg (bq_tb1 (List.mem_of_getElem? (i := 18) rfl)) rfl
theorem in_J10 : Cond.initialized RJ10 ∈ lw_good := bq_tg (bq_tb1 (List.mem_of_getElem? (i := 19) rfl)) rfl
theorem cl_L_8 : Cond.classLink RL 8 RX7 ∈ lw_good := bq_tg (bq_tb1 (List.mem_of_getElem? (i := 20) rfl)) rfl
theorem it_X7 : Cond.instantiable RX7 6 ∈ lw_good := bq_tg (bq_tb1 (List.mem_of_getElem? (i := 21) rfl)) rfl
theorem ml_L_100 : Cond.methodLink RL 100 yX7_init ∈ lw_good := bq_tg (bq_tb1 (List.mem_of_getElem? (i := 22) rfl)) rfl
theorem im_X7_init : Cond.instanceMethod yX7_init ∈ lw_good := bq_tg (bq_tb1 (List.mem_of_getElem? (i := 23) rfl)) rfl
theorem cd_X7_init : Cond.code yX7_init cX7_init 2 none ∈ lw_good := bq_tg (bq_tb1 (List.mem_of_getElem? (i := 24) rfl)) rfl
theorem ml_X7_1 : Cond.methodLink RX7 1 ⟨"java/lang/Object", "<init>", "()V"⟩ ∈ lw_good := bq_tg (bq_tb1 (List.mem_of_getElem? (i := 25) rfl)) rfl
theorem im_obj : Cond.instanceMethod objectInit ∈ lw_good := bq_tg (bq_tb1 (List.mem_of_getElem? (i := 26) rfl)) rfl
theorem cd_obj : Cond.code objectInit ⟨#[0xb1]⟩ 1 none ∈ lw_good := bq_tg (bq_tb1 (List.mem_of_getElem? (i := 27) rfl)) rfl
theorem cl_X7_7 : Cond.classLink RX7 7 RX5 ∈ lw_good := bq_tg (bq_tb1 (List.mem_of_getElem? (i := 28) rfl)) rfl
theorem it_X5 : Cond.instantiable RX5 8 ∈ lw_good := bq_tg (bq_tb1 (List.mem_of_getElem? (i := 29) rfl)) rfl
theorem im_X5_init : Cond.instanceMethod yX5_init ∈ lw_good := bq_tg (bq_tb1 (List.mem_of_getElem? (i := 31) rfl)) rfl
theorem cd_X5_init : Cond.code yX5_init cX5_init 1 none ∈ lw_good := bq_tg (bq_tb1 (List.mem_of_getElem? (i := 32) rfl)) rfl
theorem ml_X5_3 : Cond.methodLink RX5 3 ⟨"java/lang/Object", "<init>", "()V"⟩ ∈ lw_good := bq_tg (bq_tb1 (List.mem_of_getElem? (i := 33) rfl)) rfl
theorem fl_X5_30 : Cond.fieldLink RX5 30 RX5 (TX5 0).2.1 (TX5 0).2.2.1 ∈ lw_good := bq_tg (bq_tb1 (List.mem_of_getElem? (i := 34) rfl)) rfl
theorem fl_X4_30 : Cond.fieldLink RX4 30 RX5 (TX5 0).2.1 (TX5 0).2.2.1 ∈ lw_good := bq_tg (bq_tb1 (List.mem_of_getElem? (i := 35) rfl)) rfl
theorem fl_X2_43 : Cond.fieldLink RX2 43 RX5 (TX5 0).2.1 (TX5 0).2.2.1 ∈ lw_good := bq_tg (bq_tb1 (List.mem_of_getElem? (i := 36) rfl)) rfl
theorem fl_X7_83 : Cond.fieldLink RX7 83 RX5 (TX5 0).2.1 (TX5 0).2.2.1 ∈ lw_good := bq_tg (bq_tb1 (List.mem_of_getElem? (i := 37) rfl)) rfl
theorem fl_X0_72 : Cond.fieldLink RX0 72 RX5 (TX5 0).2.1 (TX5 0).2.2.1 ∈ lw_good := bq_tg (bq_tb1 (List.mem_of_getElem? (i := 38) rfl)) rfl
theorem fl_X3_121 : Cond.fieldLink RX3 121 RX5 (TX5 0).2.1 (TX5 0).2.2.1 ∈ lw_good := bq_tg (bq_tb1 (List.mem_of_getElem? (i := 39) rfl)) rfl
theorem fl_X5_9 : Cond.fieldLink RX5 9 RX5 (TX5 1).2.1 (TX5 1).2.2.1 ∈ lw_good := bq_tg (bq_tb1 (List.mem_of_getElem? (i := 40) rfl)) rfl
theorem fl_X4_36 : Cond.fieldLink RX4 36 RX5 (TX5 1).2.1 (TX5 1).2.2.1 ∈ lw_good := bq_tg (bq_tb1 (List.mem_of_getElem? (i := 41) rfl)) rfl
theorem fl_X0_62 : Cond.fieldLink RX0 62 RX5 (TX5 1).2.1 (TX5 1).2.2.1 ∈ lw_good := bq_tg (bq_tb1 (List.mem_of_getElem? (i := 42) rfl)) rfl
theorem fl_X7_96 : Cond.fieldLink RX7 96 RX5 (TX5 1).2.1 (TX5 1).2.2.1 ∈ lw_good := bq_tg (bq_tb1 (List.mem_of_getElem? (i := 43) rfl)) rfl
theorem fl_X3_126 : Cond.fieldLink RX3 126 RX5 (TX5 1).2.1 (TX5 1).2.2.1 ∈ lw_good := bq_tg (bq_tb1 (List.mem_of_getElem? (i := 44) rfl)) rfl
theorem fl_X2_78 : Cond.fieldLink RX2 78 RX5 (TX5 1).2.1 (TX5 1).2.2.1 ∈ lw_good := bq_tg (bq_tb1 (List.mem_of_getElem? (i := 45) rfl)) rfl
theorem fl_X5_15 : Cond.fieldLink RX5 15 RX5 (TX5 2).2.1 (TX5 2).2.2.1 ∈ lw_good := bq_tg (bq_tb1 (List.mem_of_getElem? (i := 46) rfl)) rfl
theorem fl_X4_43 : Cond.fieldLink RX4 43 RX5 (TX5 2).2.1 (TX5 2).2.2.1 ∈ lw_good := bq_tg (bq_tb1 (List.mem_of_getElem? (i := 47) rfl)) rfl
theorem fl_X0_66 : Cond.fieldLink RX0 66 RX5 (TX5 2).2.1 (TX5 2).2.2.1 ∈ lw_good := bq_tg (bq_tb1 (List.mem_of_getElem? (i := 48) rfl)) rfl
theorem fl_X7_104 : Cond.fieldLink RX7 104 RX5 (TX5 2).2.1 (TX5 2).2.2.1 ∈ lw_good := bq_tg (bq_tb1 (List.mem_of_getElem? (i := 49) rfl)) rfl
theorem fl_X3_129 : Cond.fieldLink RX3 129 RX5 (TX5 2).2.1 (TX5 2).2.2.1 ∈ lw_good := bq_tg (bq_tb1 (List.mem_of_getElem? (i := 50) rfl)) rfl
theorem fl_X2_81 : Cond.fieldLink RX2 81 RX5 (TX5 2).2.1 (TX5 2).2.2.1 ∈ lw_good := bq_tg (bq_tb1 (List.mem_of_getElem? (i := 51) rfl)) rfl
theorem fl_X5_18 : Cond.fieldLink RX5 18 RX5 (TX5 3).2.1 (TX5 3).2.2.1 ∈ lw_good := bq_tg (bq_tb1 (List.mem_of_getElem? (i := 52) rfl)) rfl
theorem fl_X0_69 : Cond.fieldLink RX0 69 RX5 (TX5 3).2.1 (TX5 3).2.2.1 ∈ lw_good := bq_tg (bq_tb1 (List.mem_of_getElem? (i := 53) rfl)) rfl
theorem fl_X7_107 : Cond.fieldLink RX7 107 RX5 (TX5 3).2.1 (TX5 3).2.2.1 ∈ lw_good := bq_tg (bq_tb1 (List.mem_of_getElem? (i := 54) rfl)) rfl
theorem fl_X3_132 : Cond.fieldLink RX3 132 RX5 (TX5 3).2.1 (TX5 3).2.2.1 ∈ lw_good := bq_tg (bq_tb1 (List.mem_of_getElem? (i := 55) rfl)) rfl
theorem fl_X2_87 : Cond.fieldLink RX2 87 RX5 (TX5 3).2.1 (TX5 3).2.2.1 ∈ lw_good := bq_tg (bq_tb1 (List.mem_of_getElem? (i := 56) rfl)) rfl
theorem fl_X5_21 : Cond.fieldLink RX5 21 RX5 (TX5 4).2.1 (TX5 4).2.2.1 ∈ lw_good := bq_tg (bq_tb1 (List.mem_of_getElem? (i := 57) rfl)) rfl
theorem fl_X2_36 : Cond.fieldLink RX2 36 RX5 (TX5 4).2.1 (TX5 4).2.2.1 ∈ lw_good := bq_tg (bq_tb1 (List.mem_of_getElem? (i := 58) rfl)) rfl
theorem fl_X0_18 : Cond.fieldLink RX0 18 RX5 (TX5 5).2.1 (TX5 5).2.2.1 ∈ lw_good := bq_tg (bq_tb1 (List.mem_of_getElem? (i := 59) rfl)) rfl
theorem fl_X5_65 : Cond.fieldLink RX5 65 RX5 (TX5 5).2.1 (TX5 5).2.2.1 ∈ lw_good := bq_tg (bq_tb1 (List.mem_of_getElem? (i := 60) rfl)) rfl
theorem fl_X7_117 : Cond.fieldLink RX7 117 RX5 (TX5 5).2.1 (TX5 5).2.2.1 ∈ lw_good := bq_tg (bq_tb1 (List.mem_of_getElem? (i := 61) rfl)) rfl
theorem fl_X5_24 : Cond.fieldLink RX5 24 RX5 (TX5 6).2.1 (TX5 6).2.2.1 ∈ lw_good := bq_tg (bq_tb1 (List.mem_of_getElem? (i := 62) rfl)) rfl
theorem fl_X7_125 : Cond.fieldLink RX7 125 RX5 (TX5 6).2.1 (TX5 6).2.2.1 ∈ lw_good := bq_tg (bq_tb1 (List.mem_of_getElem? (i := 63) rfl)) rfl
theorem fl_X5_27 : Cond.fieldLink RX5 27 RX5 (TX5 7).2.1 (TX5 7).2.2.1 ∈ lw_good := bq_tg (bq_tb1 (List.mem_of_getElem? (i := 64) rfl)) rfl
theorem fl_X0_81 : Cond.fieldLink RX0 81 RX5 (TX5 7).2.1 (TX5 7).2.2.1 ∈ lw_good := bq_tg (bq_tb1 (List.mem_of_getElem? (i := 65) rfl)) rfl
theorem fl_X7_128 : Cond.fieldLink RX7 128 RX5 (TX5 7).2.1 (TX5 7).2.2.1 ∈ lw_good := bq_tg (bq_tb1 (List.mem_of_getElem? (i := 66) rfl)) rfl
theorem ac_int : Cond.arrayClass .int ∈ lw_good := bq_tg (bq_tb1 (List.mem_of_getElem? (i := 84) rfl)) rfl
theorem cl_X7_10 : Cond.classLink RX7 10 RX2 ∈ lw_good := bq_tg (bq_tb1 (List.mem_of_getElem? (i := 85) rfl)) rfl
theorem it_X2 : Cond.instantiable RX2 6 ∈ lw_good := bq_tg (bq_tb1 (List.mem_of_getElem? (i := 86) rfl)) rfl
theorem im_X2_init : Cond.instanceMethod yX2_init ∈ lw_good := bq_tg (bq_tb1 (List.mem_of_getElem? (i := 88) rfl)) rfl
theorem cd_X2_init : Cond.code yX2_init cX2_init 1 none ∈ lw_good := bq_tg (bq_tb1 (List.mem_of_getElem? (i := 89) rfl)) rfl
theorem ml_X2_3 : Cond.methodLink RX2 3 ⟨"java/lang/Object", "<init>", "()V"⟩ ∈ lw_good := bq_tg (bq_tb1 (List.mem_of_getElem? (i := 90) rfl)) rfl
theorem fl_X2_9 : Cond.fieldLink RX2 9 RX2 (TX2 0).2.1 (TX2 0).2.2.1 ∈ lw_good := bq_tg (bq_tb1 (List.mem_of_getElem? (i := 91) rfl)) rfl
theorem fl_X2_15 : Cond.fieldLink RX2 15 RX2 (TX2 1).2.1 (TX2 1).2.2.1 ∈ lw_good := bq_tg (bq_tb1 (List.mem_of_getElem? (i := 92) rfl)) rfl
theorem fl_X7_53 : Cond.fieldLink RX7 53 RX2 (TX2 1).2.1 (TX2 1).2.2.1 ∈ lw_good := bq_tg (bq_tb1 (List.mem_of_getElem? (i := 93) rfl)) rfl
theorem fl_X2_24 : Cond.fieldLink RX2 24 RX2 (TX2 2).2.1 (TX2 2).2.2.1 ∈ lw_good := bq_tg (bq_tb1 (List.mem_of_getElem? (i := 94) rfl)) rfl
theorem fl_X7_68 : Cond.fieldLink RX7 68 RX2 (TX2 2).2.1 (TX2 2).2.2.1 ∈ lw_good := bq_tg (bq_tb1 (List.mem_of_getElem? (i := 95) rfl)) rfl
theorem fl_X2_27 : Cond.fieldLink RX2 27 RX2 (TX2 3).2.1 (TX2 3).2.2.1 ∈ lw_good := bq_tg (bq_tb1 (List.mem_of_getElem? (i := 96) rfl)) rfl
theorem fl_X7_71 : Cond.fieldLink RX7 71 RX2 (TX2 3).2.1 (TX2 3).2.2.1 ∈ lw_good := bq_tg (bq_tb1 (List.mem_of_getElem? (i := 97) rfl)) rfl
theorem fl_X2_30 : Cond.fieldLink RX2 30 RX2 (TX2 4).2.1 (TX2 4).2.2.1 ∈ lw_good := bq_tg (bq_tb1 (List.mem_of_getElem? (i := 98) rfl)) rfl
theorem fl_X2_33 : Cond.fieldLink RX2 33 RX2 (TX2 5).2.1 (TX2 5).2.2.1 ∈ lw_good := bq_tg (bq_tb1 (List.mem_of_getElem? (i := 99) rfl)) rfl
theorem cl_X7_19 : Cond.classLink RX7 19 RX3 ∈ lw_good := bq_tg (bq_tb1 (List.mem_of_getElem? (i := 113) rfl)) rfl
theorem it_X3 : Cond.instantiable RX3 13 ∈ lw_good := bq_tg (bq_tb1 (List.mem_of_getElem? (i := 114) rfl)) rfl
theorem ml_X7_21 : Cond.methodLink RX7 21 yX3_init ∈ lw_good := bq_tg (bq_tb1 (List.mem_of_getElem? (i := 115) rfl)) rfl
theorem im_X3_init : Cond.instanceMethod yX3_init ∈ lw_good := bq_tg (bq_tb1 (List.mem_of_getElem? (i := 116) rfl)) rfl
theorem cd_X3_init : Cond.code yX3_init cX3_init 2 none ∈ lw_good := bq_tg (bq_tb1 (List.mem_of_getElem? (i := 117) rfl)) rfl
theorem ml_X3_3 : Cond.methodLink RX3 3 ⟨"java/lang/Object", "<init>", "()V"⟩ ∈ lw_good := bq_tg (bq_tb1 (List.mem_of_getElem? (i := 118) rfl)) rfl
theorem cl_X3_9 : Cond.classLink RX3 9 RX0 ∈ lw_good := bq_tg (bq_tb1 (List.mem_of_getElem? (i := 119) rfl)) rfl
theorem it_X0 : Cond.instantiable RX0 6 ∈ lw_good := bq_tg (bq_tb1 (List.mem_of_getElem? (i := 120) rfl)) rfl
theorem im_X0_init : Cond.instanceMethod yX0_init ∈ lw_good := bq_tg (bq_tb1 (List.mem_of_getElem? (i := 122) rfl)) rfl
theorem cd_X0_init : Cond.code yX0_init cX0_init 1 none ∈ lw_good := bq_tg (bq_tb1 (List.mem_of_getElem? (i := 123) rfl)) rfl
theorem ml_X0_3 : Cond.methodLink RX0 3 ⟨"java/lang/Object", "<init>", "()V"⟩ ∈ lw_good := bq_tg (bq_tb1 (List.mem_of_getElem? (i := 124) rfl)) rfl
theorem fl_X0_9 : Cond.fieldLink RX0 9 RX0 (TX0 0).2.1 (TX0 0).2.2.1 ∈ lw_good := bq_tg (bq_tb1 (List.mem_of_getElem? (i := 125) rfl)) rfl
theorem fl_X3_85 : Cond.fieldLink RX3 85 RX0 (TX0 0).2.1 (TX0 0).2.2.1 ∈ lw_good := bq_tg (bq_tb1 (List.mem_of_getElem? (i := 126) rfl)) rfl
theorem fl_X7_141 : Cond.fieldLink RX7 141 RX0 (TX0 0).2.1 (TX0 0).2.2.1 ∈ lw_good := bq_tg (bq_tb1 (List.mem_of_getElem? (i := 127) rfl)) rfl
theorem fl_X0_15 : Cond.fieldLink RX0 15 RX0 (TX0 1).2.1 (TX0 1).2.2.1 ∈ lw_good := bq_tg (bq_tb1 (List.mem_of_getElem? (i := 128) rfl)) rfl
theorem fl_X6_37 : Cond.fieldLink RX6 37 RX0 (TX0 1).2.1 (TX0 1).2.2.1 ∈ lw_good := bq_tg (bq_tb1 (List.mem_of_getElem? (i := 129) rfl)) rfl
theorem fl_X7_198 : Cond.fieldLink RX7 198 RX0 (TX0 1).2.1 (TX0 1).2.2.1 ∈ lw_good := bq_tg (bq_tb1 (List.mem_of_getElem? (i := 130) rfl)) rfl
theorem fl_X0_26 : Cond.fieldLink RX0 26 RX0 (TX0 2).2.1 (TX0 2).2.2.1 ∈ lw_good := bq_tg (bq_tb1 (List.mem_of_getElem? (i := 131) rfl)) rfl
theorem fl_X3_135 : Cond.fieldLink RX3 135 RX0 (TX0 2).2.1 (TX0 2).2.2.1 ∈ lw_good := bq_tg (bq_tb1 (List.mem_of_getElem? (i := 132) rfl)) rfl
theorem fl_X0_33 : Cond.fieldLink RX0 33 RX0 (TX0 3).2.1 (TX0 3).2.2.1 ∈ lw_good := bq_tg (bq_tb1 (List.mem_of_getElem? (i := 133) rfl)) rfl
theorem fl_X3_138 : Cond.fieldLink RX3 138 RX0 (TX0 3).2.1 (TX0 3).2.2.1 ∈ lw_good := bq_tg (bq_tb1 (List.mem_of_getElem? (i := 134) rfl)) rfl
theorem fl_X0_59 : Cond.fieldLink RX0 59 RX0 (TX0 4).2.1 (TX0 4).2.2.1 ∈ lw_good := bq_tg (bq_tb1 (List.mem_of_getElem? (i := 135) rfl)) rfl
theorem fl_X3_152 : Cond.fieldLink RX3 152 RX0 (TX0 4).2.1 (TX0 4).2.2.1 ∈ lw_good := bq_tg (bq_tb1 (List.mem_of_getElem? (i := 136) rfl)) rfl
theorem fl_X0_51 : Cond.fieldLink RX0 51 RX0 (TX0 5).2.1 (TX0 5).2.2.1 ∈ lw_good := bq_tg (bq_tb1 (List.mem_of_getElem? (i := 137) rfl)) rfl
theorem fl_X3_112 : Cond.fieldLink RX3 112 RX0 (TX0 5).2.1 (TX0 5).2.2.1 ∈ lw_good := bq_tg (bq_tb1 (List.mem_of_getElem? (i := 138) rfl)) rfl
theorem cl_X3_18 : Cond.classLink RX3 18 RX1 ∈ lw_good := bq_tg (bq_tb1 (List.mem_of_getElem? (i := 152) rfl)) rfl
theorem it_X1 : Cond.instantiable RX1 5 ∈ lw_good := bq_tg (bq_tb1 (List.mem_of_getElem? (i := 153) rfl)) rfl
theorem im_X1_init : Cond.instanceMethod yX1_init ∈ lw_good := bq_tg (bq_tb1 (List.mem_of_getElem? (i := 155) rfl)) rfl
theorem cd_X1_init : Cond.code yX1_init cX1_init 1 none ∈ lw_good := bq_tg (bq_tb1 (List.mem_of_getElem? (i := 156) rfl)) rfl
theorem ml_X1_3 : Cond.methodLink RX1 3 ⟨"java/lang/Object", "<init>", "()V"⟩ ∈ lw_good := bq_tg (bq_tb1 (List.mem_of_getElem? (i := 157) rfl)) rfl
theorem fl_X1_9 : Cond.fieldLink RX1 9 RX1 (TX1 0).2.1 (TX1 0).2.2.1 ∈ lw_good := bq_tg (bq_tb1 (List.mem_of_getElem? (i := 158) rfl)) rfl
theorem fl_X7_210 : Cond.fieldLink RX7 210 RX1 (TX1 0).2.1 (TX1 0).2.2.1 ∈ lw_good := bq_tg (bq_tb1 (List.mem_of_getElem? (i := 159) rfl)) rfl
theorem fl_X1_15 : Cond.fieldLink RX1 15 RX1 (TX1 1).2.1 (TX1 1).2.2.1 ∈ lw_good := bq_tg (bq_tb1 (List.mem_of_getElem? (i := 160) rfl)) rfl
theorem fl_X7_213 : Cond.fieldLink RX7 213 RX1 (TX1 1).2.1 (TX1 1).2.2.1 ∈ lw_good := bq_tg (bq_tb1 (List.mem_of_getElem? (i := 161) rfl)) rfl
theorem fl_X1_18 : Cond.fieldLink RX1 18 RX1 (TX1 2).2.1 (TX1 2).2.2.1 ∈ lw_good := bq_tg (bq_tb1 (List.mem_of_getElem? (i := 162) rfl)) rfl
theorem fl_X7_174 : Cond.fieldLink RX7 174 RX1 (TX1 2).2.1 (TX1 2).2.2.1 ∈ lw_good := bq_tg (bq_tb1 (List.mem_of_getElem? (i := 163) rfl)) rfl
theorem fl_X1_22 : Cond.fieldLink RX1 22 RX1 (TX1 3).2.1 (TX1 3).2.2.1 ∈ lw_good := bq_tg (bq_tb1 (List.mem_of_getElem? (i := 164) rfl)) rfl
theorem fl_X1_25 : Cond.fieldLink RX1 25 RX1 (TX1 4).2.1 (TX1 4).2.2.1 ∈ lw_good := bq_tg (bq_tb1 (List.mem_of_getElem? (i := 165) rfl)) rfl
theorem cl_X3_25 : Cond.classLink RX3 25 RX4 ∈ lw_good := bq_tg (bq_tb1 (List.mem_of_getElem? (i := 177) rfl)) rfl
theorem it_X4 : Cond.instantiable RX4 6 ∈ lw_good := bq_tg (bq_tb1 (List.mem_of_getElem? (i := 178) rfl)) rfl
theorem im_X4_init : Cond.instanceMethod yX4_init ∈ lw_good := bq_tg (bq_tb1 (List.mem_of_getElem? (i := 180) rfl)) rfl
theorem cd_X4_init : Cond.code yX4_init cX4_init 1 none ∈ lw_good := bq_tg (bq_tb1 (List.mem_of_getElem? (i := 181) rfl)) rfl
theorem ml_X4_1 : Cond.methodLink RX4 1 ⟨"java/lang/Object", "<init>", "()V"⟩ ∈ lw_good := bq_tg (bq_tb1 (List.mem_of_getElem? (i := 182) rfl)) rfl
theorem fl_X4_7 : Cond.fieldLink RX4 7 RX4 (TX4 0).2.1 (TX4 0).2.2.1 ∈ lw_good := bq_tg (bq_tb1 (List.mem_of_getElem? (i := 183) rfl)) rfl
theorem fl_X7_220 : Cond.fieldLink RX7 220 RX4 (TX4 0).2.1 (TX4 0).2.2.1 ∈ lw_good := bq_tg (bq_tb1 (List.mem_of_getElem? (i := 184) rfl)) rfl
theorem fl_X4_13 : Cond.fieldLink RX4 13 RX4 (TX4 1).2.1 (TX4 1).2.2.1 ∈ lw_good := bq_tg (bq_tb1 (List.mem_of_getElem? (i := 185) rfl)) rfl
theorem fl_X7_225 : Cond.fieldLink RX7 225 RX4 (TX4 1).2.1 (TX4 1).2.2.1 ∈ lw_good := bq_tg (bq_tb1 (List.mem_of_getElem? (i := 186) rfl)) rfl
theorem fl_X4_16 : Cond.fieldLink RX4 16 RX4 (TX4 2).2.1 (TX4 2).2.2.1 ∈ lw_good := bq_tg (bq_tb1 (List.mem_of_getElem? (i := 187) rfl)) rfl
theorem fl_X7_278 : Cond.fieldLink RX7 278 RX4 (TX4 2).2.1 (TX4 2).2.2.1 ∈ lw_good := bq_tg (bq_tb1 (List.mem_of_getElem? (i := 188) rfl)) rfl
theorem fl_X4_33 : Cond.fieldLink RX4 33 RX4 (TX4 3).2.1 (TX4 3).2.2.1 ∈ lw_good := bq_tg (bq_tb1 (List.mem_of_getElem? (i := 189) rfl)) rfl
theorem fl_X4_40 : Cond.fieldLink RX4 40 RX4 (TX4 4).2.1 (TX4 4).2.2.1 ∈ lw_good := bq_tg (bq_tb1 (List.mem_of_getElem? (i := 190) rfl)) rfl
theorem fl_X4_46 : Cond.fieldLink RX4 46 RX4 (TX4 5).2.1 (TX4 5).2.2.1 ∈ lw_good := bq_tg (bq_tb1 (List.mem_of_getElem? (i := 191) rfl)) rfl
theorem ml_X3_53 : Cond.methodLink RX3 53 yJ7_fill_53178 ∈ lw_good := bq_tg (bq_tb1 (List.mem_of_getElem? (i := 205) rfl)) rfl
theorem st_J7_fill_53178 : Cond.static yJ7_fill_53178 ∈ lw_good := bq_tg (bq_tb1 (List.mem_of_getElem? (i := 206) rfl)) rfl
theorem cd_J7_fill_53178 : Cond.code yJ7_fill_53178 cJ7_fill_53178 4 none ∈ lw_good := bq_tg (bq_tb1 (List.mem_of_getElem? (i := 207) rfl)) rfl
theorem fl_X3_49 : Cond.fieldLink RX3 49 RX3 (TX3 0).2.1 (TX3 0).2.2.1 ∈ lw_good := bq_tg (bq_tb1 (List.mem_of_getElem? (i := 208) rfl)) rfl
theorem fl_X7_77 : Cond.fieldLink RX7 77 RX3 (TX3 0).2.1 (TX3 0).2.2.1 ∈ lw_good := bq_tg (bq_tb1 (List.mem_of_getElem? (i := 209) rfl)) rfl
theorem fl_X3_12 : Cond.fieldLink RX3 12 RX3 (TX3 1).2.1 (TX3 1).2.2.1 ∈ lw_good := bq_tg (bq_tb1 (List.mem_of_getElem? (i := 210) rfl)) rfl
theorem fl_X6_33 : Cond.fieldLink RX6 33 RX3 (TX3 1).2.1 (TX3 1).2.2.1 ∈ lw_good := bq_tg (bq_tb1 (List.mem_of_getElem? (i := 211) rfl)) rfl
theorem fl_X7_137 : Cond.fieldLink RX7 137 RX3 (TX3 1).2.1 (TX3 1).2.2.1 ∈ lw_good := bq_tg (bq_tb1 (List.mem_of_getElem? (i := 212) rfl)) rfl
theorem fl_X3_21 : Cond.fieldLink RX3 21 RX3 (TX3 2).2.1 (TX3 2).2.2.1 ∈ lw_good := bq_tg (bq_tb1 (List.mem_of_getElem? (i := 213) rfl)) rfl
theorem fl_X7_170 : Cond.fieldLink RX7 170 RX3 (TX3 2).2.1 (TX3 2).2.2.1 ∈ lw_good := bq_tg (bq_tb1 (List.mem_of_getElem? (i := 214) rfl)) rfl
theorem fl_X3_28 : Cond.fieldLink RX3 28 RX3 (TX3 3).2.1 (TX3 3).2.2.1 ∈ lw_good := bq_tg (bq_tb1 (List.mem_of_getElem? (i := 215) rfl)) rfl
theorem fl_X7_216 : Cond.fieldLink RX7 216 RX3 (TX3 3).2.1 (TX3 3).2.2.1 ∈ lw_good := bq_tg (bq_tb1 (List.mem_of_getElem? (i := 216) rfl)) rfl
theorem fl_X3_32 : Cond.fieldLink RX3 32 RX3 (TX3 4).2.1 (TX3 4).2.2.1 ∈ lw_good := bq_tg (bq_tb1 (List.mem_of_getElem? (i := 217) rfl)) rfl
theorem fl_X7_148 : Cond.fieldLink RX7 148 RX3 (TX3 4).2.1 (TX3 4).2.2.1 ∈ lw_good := bq_tg (bq_tb1 (List.mem_of_getElem? (i := 218) rfl)) rfl
theorem fl_X3_36 : Cond.fieldLink RX3 36 RX3 (TX3 5).2.1 (TX3 5).2.2.1 ∈ lw_good := bq_tg (bq_tb1 (List.mem_of_getElem? (i := 219) rfl)) rfl
theorem fl_X6_18 : Cond.fieldLink RX6 18 RX3 (TX3 5).2.1 (TX3 5).2.2.1 ∈ lw_good := bq_tg (bq_tb1 (List.mem_of_getElem? (i := 220) rfl)) rfl
theorem fl_X7_180 : Cond.fieldLink RX7 180 RX3 (TX3 5).2.1 (TX3 5).2.2.1 ∈ lw_good := bq_tg (bq_tb1 (List.mem_of_getElem? (i := 221) rfl)) rfl
theorem fl_X3_39 : Cond.fieldLink RX3 39 RX3 (TX3 6).2.1 (TX3 6).2.2.1 ∈ lw_good := bq_tg (bq_tb1 (List.mem_of_getElem? (i := 222) rfl)) rfl
theorem fl_X6_27 : Cond.fieldLink RX6 27 RX3 (TX3 6).2.1 (TX3 6).2.2.1 ∈ lw_good := bq_tg (bq_tb1 (List.mem_of_getElem? (i := 223) rfl)) rfl
theorem fl_X7_195 : Cond.fieldLink RX7 195 RX3 (TX3 6).2.1 (TX3 6).2.2.1 ∈ lw_good := bq_tg (bq_tb1 (List.mem_of_getElem? (i := 224) rfl)) rfl
theorem fl_X3_42 : Cond.fieldLink RX3 42 RX3 (TX3 7).2.1 (TX3 7).2.2.1 ∈ lw_good := bq_tg (bq_tb1 (List.mem_of_getElem? (i := 225) rfl)) rfl
theorem fl_X7_158 : Cond.fieldLink RX7 158 RX3 (TX3 7).2.1 (TX3 7).2.2.1 ∈ lw_good := bq_tg (bq_tb1 (List.mem_of_getElem? (i := 226) rfl)) rfl
theorem fl_X3_45 : Cond.fieldLink RX3 45 RX3 (TX3 8).2.1 (TX3 8).2.2.1 ∈ lw_good := bq_tg (bq_tb1 (List.mem_of_getElem? (i := 227) rfl)) rfl
theorem fl_X7_151 : Cond.fieldLink RX7 151 RX3 (TX3 8).2.1 (TX3 8).2.2.1 ∈ lw_good := bq_tg (bq_tb1 (List.mem_of_getElem? (i := 228) rfl)) rfl
theorem fl_X3_59 : Cond.fieldLink RX3 59 RX3 (TX3 9).2.1 (TX3 9).2.2.1 ∈ lw_good := bq_tg (bq_tb1 (List.mem_of_getElem? (i := 229) rfl)) rfl
theorem fl_X6_28 : Cond.fieldLink RX6 28 RX3 (TX3 9).2.1 (TX3 9).2.2.1 ∈ lw_good := bq_tg (bq_tb1 (List.mem_of_getElem? (i := 230) rfl)) rfl
theorem fl_X7_183 : Cond.fieldLink RX7 183 RX3 (TX3 9).2.1 (TX3 9).2.2.1 ∈ lw_good := bq_tg (bq_tb1 (List.mem_of_getElem? (i := 231) rfl)) rfl
theorem fl_X3_63 : Cond.fieldLink RX3 63 RX3 (TX3 10).2.1 (TX3 10).2.2.1 ∈ lw_good := bq_tg (bq_tb1 (List.mem_of_getElem? (i := 232) rfl)) rfl
theorem fl_X7_165 : Cond.fieldLink RX7 165 RX3 (TX3 10).2.1 (TX3 10).2.2.1 ∈ lw_good := bq_tg (bq_tb1 (List.mem_of_getElem? (i := 233) rfl)) rfl
theorem fl_X3_66 : Cond.fieldLink RX3 66 RX3 (TX3 11).2.1 (TX3 11).2.2.1 ∈ lw_good := bq_tg (bq_tb1 (List.mem_of_getElem? (i := 234) rfl)) rfl
theorem fl_X7_228 : Cond.fieldLink RX7 228 RX3 (TX3 11).2.1 (TX3 11).2.2.1 ∈ lw_good := bq_tg (bq_tb1 (List.mem_of_getElem? (i := 235) rfl)) rfl
theorem fl_X3_69 : Cond.fieldLink RX3 69 RX3 (TX3 12).2.1 (TX3 12).2.2.1 ∈ lw_good := bq_tg (bq_tb1 (List.mem_of_getElem? (i := 236) rfl)) rfl
theorem fl_X7_275 : Cond.fieldLink RX7 275 RX3 (TX3 12).2.1 (TX3 12).2.2.1 ∈ lw_good := bq_tg (bq_tb1 (List.mem_of_getElem? (i := 237) rfl)) rfl
theorem cl_X7_31 : Cond.classLink RX7 31 RX6 ∈ lw_good := bq_tg (bq_tb2 (List.mem_of_getElem? (i := 25) rfl)) rfl
theorem it_X6 : Cond.instantiable RX6 4 ∈ lw_good := bq_tg (bq_tb2 (List.mem_of_getElem? (i := 26) rfl)) rfl
theorem im_X6_init : Cond.instanceMethod yX6_init ∈ lw_good := bq_tg (bq_tb2 (List.mem_of_getElem? (i := 28) rfl)) rfl
theorem cd_X6_init : Cond.code yX6_init cX6_init 1 none ∈ lw_good := bq_tg (bq_tb2 (List.mem_of_getElem? (i := 29) rfl)) rfl
theorem ml_X6_3 : Cond.methodLink RX6 3 ⟨"java/lang/Object", "<init>", "()V"⟩ ∈ lw_good := bq_tg (bq_tb2 (List.mem_of_getElem? (i := 30) rfl)) rfl
theorem fl_X6_9 : Cond.fieldLink RX6 9 RX6 (TX6 0).2.1 (TX6 0).2.2.1 ∈ lw_good := bq_tg (bq_tb2 (List.mem_of_getElem? (i := 31) rfl)) rfl
theorem fl_X6_15 : Cond.fieldLink RX6 15 RX6 (TX6 1).2.1 (TX6 1).2.2.1 ∈ lw_good := bq_tg (bq_tb2 (List.mem_of_getElem? (i := 32) rfl)) rfl
theorem fl_X6_32 : Cond.fieldLink RX6 32 RX6 (TX6 2).2.1 (TX6 2).2.2.1 ∈ lw_good := bq_tg (bq_tb2 (List.mem_of_getElem? (i := 33) rfl)) rfl
theorem fl_X6_42 : Cond.fieldLink RX6 42 RX6 (TX6 3).2.1 (TX6 3).2.2.1 ∈ lw_good := bq_tg (bq_tb2 (List.mem_of_getElem? (i := 34) rfl)) rfl
theorem fl_X7_13 : Cond.fieldLink RX7 13 RX7 (TX7 0).2.1 (TX7 0).2.2.1 ∈ lw_good := bq_tg (bq_tb2 (List.mem_of_getElem? (i := 44) rfl)) rfl
theorem fl_X7_24 : Cond.fieldLink RX7 24 RX7 (TX7 1).2.1 (TX7 1).2.2.1 ∈ lw_good := bq_tg (bq_tb2 (List.mem_of_getElem? (i := 45) rfl)) rfl
theorem fl_X7_28 : Cond.fieldLink RX7 28 RX7 (TX7 2).2.1 (TX7 2).2.2.1 ∈ lw_good := bq_tg (bq_tb2 (List.mem_of_getElem? (i := 46) rfl)) rfl
theorem fl_X7_34 : Cond.fieldLink RX7 34 RX7 (TX7 3).2.1 (TX7 3).2.2.1 ∈ lw_good := bq_tg (bq_tb2 (List.mem_of_getElem? (i := 47) rfl)) rfl
theorem fl_X7_38 : Cond.fieldLink RX7 38 RX7 (TX7 4).2.1 (TX7 4).2.2.1 ∈ lw_good := bq_tg (bq_tb2 (List.mem_of_getElem? (i := 48) rfl)) rfl
theorem fl_X7_42 : Cond.fieldLink RX7 42 RX7 (TX7 5).2.1 (TX7 5).2.2.1 ∈ lw_good := bq_tg (bq_tb2 (List.mem_of_getElem? (i := 49) rfl)) rfl
theorem ml_L_113 : Cond.methodLink RL 113 yX7_clearText ∈ lw_good := bq_tg (bq_tb2 (List.mem_of_getElem? (i := 63) rfl)) rfl
theorem im_X7_clearText : Cond.instanceMethod yX7_clearText ∈ lw_good := bq_tg (bq_tb2 (List.mem_of_getElem? (i := 64) rfl)) rfl
theorem sl_X7_clearText : Cond.selects RX7 yX7_clearText yX7_clearText ∈ lw_good := bq_tg (bq_tb2 (List.mem_of_getElem? (i := 65) rfl)) rfl
theorem cd_X7_clearText : Cond.code yX7_clearText cX7_clearText 2 (some .int) ∈ lw_good := bq_tg (bq_tb2 (List.mem_of_getElem? (i := 66) rfl)) rfl
theorem ml_L_117 : Cond.methodLink RL 117 yX7_readSequence ∈ lw_good := bq_tg (bq_tb2 (List.mem_of_getElem? (i := 67) rfl)) rfl
theorem im_X7_readSequence : Cond.instanceMethod yX7_readSequence ∈ lw_good := bq_tg (bq_tb2 (List.mem_of_getElem? (i := 68) rfl)) rfl
theorem sl_X7_readSequence : Cond.selects RX7 yX7_readSequence yX7_readSequence ∈ lw_good := bq_tg (bq_tb2 (List.mem_of_getElem? (i := 69) rfl)) rfl
theorem cd_X7_readSequence : Cond.code yX7_readSequence cX7_readSequence 2 (some .int) ∈ lw_good := bq_tg (bq_tb2 (List.mem_of_getElem? (i := 70) rfl)) rfl
theorem ml_X7_65 : Cond.methodLink RX7 65 yX2_readInto ∈ lw_good := bq_tg (bq_tb2 (List.mem_of_getElem? (i := 71) rfl)) rfl
theorem im_X2_readInto : Cond.instanceMethod yX2_readInto ∈ lw_good := bq_tg (bq_tb2 (List.mem_of_getElem? (i := 72) rfl)) rfl
theorem sl_X2_readInto : Cond.selects RX2 yX2_readInto yX2_readInto ∈ lw_good := bq_tg (bq_tb2 (List.mem_of_getElem? (i := 73) rfl)) rfl
theorem cd_X2_readInto : Cond.code yX2_readInto cX2_readInto 3 none ∈ lw_good := bq_tg (bq_tb2 (List.mem_of_getElem? (i := 74) rfl)) rfl
theorem ml_X2_19 : Cond.methodLink RX2 19 yX5_clear ∈ lw_good := bq_tg (bq_tb2 (List.mem_of_getElem? (i := 75) rfl)) rfl
theorem im_X5_clear : Cond.instanceMethod yX5_clear ∈ lw_good := bq_tg (bq_tb2 (List.mem_of_getElem? (i := 76) rfl)) rfl
theorem sl_X5_clear : Cond.selects RX5 yX5_clear yX5_clear ∈ lw_good := bq_tg (bq_tb2 (List.mem_of_getElem? (i := 77) rfl)) rfl
theorem cd_X5_clear : Cond.code yX5_clear cX5_clear 1 none ∈ lw_good := bq_tg (bq_tb2 (List.mem_of_getElem? (i := 78) rfl)) rfl
theorem ml_X5_34 : Cond.methodLink RX5 34 yJ7_fill_53178 ∈ lw_good := bq_tg (bq_tb2 (List.mem_of_getElem? (i := 79) rfl)) rfl
theorem ml_X2_39 : Cond.methodLink RX2 39 yX2_readStep ∈ lw_good := bq_tg (bq_tb2 (List.mem_of_getElem? (i := 80) rfl)) rfl
theorem im_X2_readStep : Cond.instanceMethod yX2_readStep ∈ lw_good := bq_tg (bq_tb2 (List.mem_of_getElem? (i := 82) rfl)) rfl
theorem cd_X2_readStep : Cond.code yX2_readStep cX2_readStep 4 none ∈ lw_good := bq_tg (bq_tb2 (List.mem_of_getElem? (i := 83) rfl)) rfl
theorem ml_X2_54 : Cond.methodLink RX2 54 yX2_signAt ∈ lw_good := bq_tg (bq_tb2 (List.mem_of_getElem? (i := 84) rfl)) rfl
theorem im_X2_signAt : Cond.instanceMethod yX2_signAt ∈ lw_good := bq_tg (bq_tb2 (List.mem_of_getElem? (i := 86) rfl)) rfl
theorem cd_X2_signAt : Cond.code yX2_signAt cX2_signAt 2 (some .int) ∈ lw_good := bq_tg (bq_tb2 (List.mem_of_getElem? (i := 87) rfl)) rfl
theorem ml_X2_58 : Cond.methodLink RX2 58 yX2_readParallel ∈ lw_good := bq_tg (bq_tb2 (List.mem_of_getElem? (i := 88) rfl)) rfl
theorem im_X2_readParallel : Cond.instanceMethod yX2_readParallel ∈ lw_good := bq_tg (bq_tb2 (List.mem_of_getElem? (i := 90) rfl)) rfl
theorem cd_X2_readParallel : Cond.code yX2_readParallel cX2_readParallel 4 none ∈ lw_good := bq_tg (bq_tb2 (List.mem_of_getElem? (i := 91) rfl)) rfl
theorem ml_X2_64 : Cond.methodLink RX2 64 yX2_readMove ∈ lw_good := bq_tg (bq_tb2 (List.mem_of_getElem? (i := 92) rfl)) rfl
theorem im_X2_readMove : Cond.instanceMethod yX2_readMove ∈ lw_good := bq_tg (bq_tb2 (List.mem_of_getElem? (i := 94) rfl)) rfl
theorem cd_X2_readMove : Cond.code yX2_readMove cX2_readMove 5 none ∈ lw_good := bq_tg (bq_tb2 (List.mem_of_getElem? (i := 95) rfl)) rfl
theorem ml_X2_46 : Cond.methodLink RX2 46 yX2_refuseSign ∈ lw_good := bq_tg (bq_tb2 (List.mem_of_getElem? (i := 96) rfl)) rfl
theorem im_X2_refuseSign : Cond.instanceMethod yX2_refuseSign ∈ lw_good := bq_tg (bq_tb2 (List.mem_of_getElem? (i := 98) rfl)) rfl
theorem cd_X2_refuseSign : Cond.code yX2_refuseSign cX2_refuseSign 2 none ∈ lw_good := bq_tg (bq_tb2 (List.mem_of_getElem? (i := 99) rfl)) rfl
theorem ml_X2_67 : Cond.methodLink RX2 67 yX2_takeMove ∈ lw_good := bq_tg (bq_tb2 (List.mem_of_getElem? (i := 100) rfl)) rfl
theorem im_X2_takeMove : Cond.instanceMethod yX2_takeMove ∈ lw_good := bq_tg (bq_tb2 (List.mem_of_getElem? (i := 102) rfl)) rfl
theorem cd_X2_takeMove : Cond.code yX2_takeMove cX2_takeMove 6 none ∈ lw_good := bq_tg (bq_tb2 (List.mem_of_getElem? (i := 103) rfl)) rfl
theorem ml_X2_71 : Cond.methodLink RX2 71 yX5_movesIn ∈ lw_good := bq_tg (bq_tb2 (List.mem_of_getElem? (i := 104) rfl)) rfl
theorem im_X5_movesIn : Cond.instanceMethod yX5_movesIn ∈ lw_good := bq_tg (bq_tb2 (List.mem_of_getElem? (i := 105) rfl)) rfl
theorem sl_X5_movesIn : Cond.selects RX5 yX5_movesIn yX5_movesIn ∈ lw_good := bq_tg (bq_tb2 (List.mem_of_getElem? (i := 106) rfl)) rfl
theorem cd_X5_movesIn : Cond.code yX5_movesIn cX5_movesIn 2 (some .int) ∈ lw_good := bq_tg (bq_tb2 (List.mem_of_getElem? (i := 107) rfl)) rfl
theorem st_X7_holds : Cond.static yX7_holds ∈ lw_good := bq_tg (bq_tb2 (List.mem_of_getElem? (i := 109) rfl)) rfl
theorem cd_X7_holds : Cond.code yX7_holds cX7_holds 2 (some .boolean) ∈ lw_good := bq_tg (bq_tb2 (List.mem_of_getElem? (i := 110) rfl)) rfl
theorem ml_X2_61 : Cond.methodLink RX2 61 yX2_readPause ∈ lw_good := bq_tg (bq_tb2 (List.mem_of_getElem? (i := 111) rfl)) rfl
theorem im_X2_readPause : Cond.instanceMethod yX2_readPause ∈ lw_good := bq_tg (bq_tb2 (List.mem_of_getElem? (i := 113) rfl)) rfl
theorem cd_X2_readPause : Cond.code yX2_readPause cX2_readPause 5 none ∈ lw_good := bq_tg (bq_tb2 (List.mem_of_getElem? (i := 114) rfl)) rfl
theorem ml_X2_84 : Cond.methodLink RX2 84 yX2_digitAt ∈ lw_good := bq_tg (bq_tb2 (List.mem_of_getElem? (i := 115) rfl)) rfl
theorem im_X2_digitAt : Cond.instanceMethod yX2_digitAt ∈ lw_good := bq_tg (bq_tb2 (List.mem_of_getElem? (i := 117) rfl)) rfl
theorem cd_X2_digitAt : Cond.code yX2_digitAt cX2_digitAt 3 (some .int) ∈ lw_good := bq_tg (bq_tb2 (List.mem_of_getElem? (i := 118) rfl)) rfl
theorem ml_X2_50 : Cond.methodLink RX2 50 yX5_movingCylinders ∈ lw_good := bq_tg (bq_tb2 (List.mem_of_getElem? (i := 119) rfl)) rfl
theorem im_X5_movingCylinders : Cond.instanceMethod yX5_movingCylinders ∈ lw_good := bq_tg (bq_tb2 (List.mem_of_getElem? (i := 120) rfl)) rfl
theorem sl_X5_movingCylinders : Cond.selects RX5 yX5_movingCylinders yX5_movingCylinders ∈ lw_good := bq_tg (bq_tb2 (List.mem_of_getElem? (i := 121) rfl)) rfl
theorem cd_X5_movingCylinders : Cond.code yX5_movingCylinders cX5_movingCylinders 3 (some .int) ∈ lw_good := bq_tg (bq_tb2 (List.mem_of_getElem? (i := 122) rfl)) rfl
theorem ml_X5_40 : Cond.methodLink RX5 40 yX5_movesIn ∈ lw_good := bq_tg (bq_tb2 (List.mem_of_getElem? (i := 123) rfl)) rfl
theorem ml_X7_74 : Cond.methodLink RX7 74 yX5_divide ∈ lw_good := bq_tg (bq_tb2 (List.mem_of_getElem? (i := 124) rfl)) rfl
theorem im_X5_divide : Cond.instanceMethod yX5_divide ∈ lw_good := bq_tg (bq_tb2 (List.mem_of_getElem? (i := 125) rfl)) rfl
theorem sl_X5_divide : Cond.selects RX5 yX5_divide yX5_divide ∈ lw_good := bq_tg (bq_tb2 (List.mem_of_getElem? (i := 126) rfl)) rfl
theorem cd_X5_divide : Cond.code yX5_divide cX5_divide 5 none ∈ lw_good := bq_tg (bq_tb2 (List.mem_of_getElem? (i := 127) rfl)) rfl
theorem ml_X5_54 : Cond.methodLink RX5 54 yX5_groupsNeeded ∈ lw_good := bq_tg (bq_tb2 (List.mem_of_getElem? (i := 128) rfl)) rfl
theorem im_X5_groupsNeeded : Cond.instanceMethod yX5_groupsNeeded ∈ lw_good := bq_tg (bq_tb2 (List.mem_of_getElem? (i := 130) rfl)) rfl
theorem cd_X5_groupsNeeded : Cond.code yX5_groupsNeeded cX5_groupsNeeded 7 (some .int) ∈ lw_good := bq_tg (bq_tb2 (List.mem_of_getElem? (i := 131) rfl)) rfl
theorem ml_X5_58 : Cond.methodLink RX5 58 yX5_placeCuts ∈ lw_good := bq_tg (bq_tb2 (List.mem_of_getElem? (i := 132) rfl)) rfl
theorem im_X5_placeCuts : Cond.instanceMethod yX5_placeCuts ∈ lw_good := bq_tg (bq_tb2 (List.mem_of_getElem? (i := 134) rfl)) rfl
theorem cd_X5_placeCuts : Cond.code yX5_placeCuts cX5_placeCuts 4 none ∈ lw_good := bq_tg (bq_tb2 (List.mem_of_getElem? (i := 135) rfl)) rfl
theorem ml_X5_62 : Cond.methodLink RX5 62 yX5_nameGroups ∈ lw_good := bq_tg (bq_tb2 (List.mem_of_getElem? (i := 136) rfl)) rfl
theorem im_X5_nameGroups : Cond.instanceMethod yX5_nameGroups ∈ lw_good := bq_tg (bq_tb2 (List.mem_of_getElem? (i := 138) rfl)) rfl
theorem cd_X5_nameGroups : Cond.code yX5_nameGroups cX5_nameGroups 4 none ∈ lw_good := bq_tg (bq_tb2 (List.mem_of_getElem? (i := 139) rfl)) rfl
theorem ml_X7_80 : Cond.methodLink RX7 80 yX3_bringToRest ∈ lw_good := bq_tg (bq_tb2 (List.mem_of_getElem? (i := 140) rfl)) rfl
theorem im_X3_bringToRest : Cond.instanceMethod yX3_bringToRest ∈ lw_good := bq_tg (bq_tb2 (List.mem_of_getElem? (i := 141) rfl)) rfl
theorem sl_X3_bringToRest : Cond.selects RX3 yX3_bringToRest yX3_bringToRest ∈ lw_good := bq_tg (bq_tb2 (List.mem_of_getElem? (i := 142) rfl)) rfl
theorem cd_X3_bringToRest : Cond.code yX3_bringToRest cX3_bringToRest 1 none ∈ lw_good := bq_tg (bq_tb2 (List.mem_of_getElem? (i := 143) rfl)) rfl
theorem ml_X3_72 : Cond.methodLink RX3 72 yX0_reset ∈ lw_good := bq_tg (bq_tb2 (List.mem_of_getElem? (i := 144) rfl)) rfl
theorem im_X0_reset : Cond.instanceMethod yX0_reset ∈ lw_good := bq_tg (bq_tb2 (List.mem_of_getElem? (i := 145) rfl)) rfl
theorem sl_X0_reset : Cond.selects RX0 yX0_reset yX0_reset ∈ lw_good := bq_tg (bq_tb2 (List.mem_of_getElem? (i := 146) rfl)) rfl
theorem cd_X0_reset : Cond.code yX0_reset cX0_reset 2 none ∈ lw_good := bq_tg (bq_tb2 (List.mem_of_getElem? (i := 147) rfl)) rfl
theorem ml_X0_23 : Cond.methodLink RX0 23 yX0_switchAllOff ∈ lw_good := bq_tg (bq_tb2 (List.mem_of_getElem? (i := 148) rfl)) rfl
theorem im_X0_switchAllOff : Cond.instanceMethod yX0_switchAllOff ∈ lw_good := bq_tg (bq_tb2 (List.mem_of_getElem? (i := 150) rfl)) rfl
theorem cd_X0_switchAllOff : Cond.code yX0_switchAllOff cX0_switchAllOff 1 none ∈ lw_good := bq_tg (bq_tb2 (List.mem_of_getElem? (i := 151) rfl)) rfl
theorem ml_X3_76 : Cond.methodLink RX3 76 yX1_reset ∈ lw_good := bq_tg (bq_tb2 (List.mem_of_getElem? (i := 152) rfl)) rfl
theorem im_X1_reset : Cond.instanceMethod yX1_reset ∈ lw_good := bq_tg (bq_tb2 (List.mem_of_getElem? (i := 153) rfl)) rfl
theorem sl_X1_reset : Cond.selects RX1 yX1_reset yX1_reset ∈ lw_good := bq_tg (bq_tb2 (List.mem_of_getElem? (i := 154) rfl)) rfl
theorem cd_X1_reset : Cond.code yX1_reset cX1_reset 1 none ∈ lw_good := bq_tg (bq_tb2 (List.mem_of_getElem? (i := 155) rfl)) rfl
theorem ml_X3_78 : Cond.methodLink RX3 78 yX4_reset ∈ lw_good := bq_tg (bq_tb2 (List.mem_of_getElem? (i := 156) rfl)) rfl
theorem im_X4_reset : Cond.instanceMethod yX4_reset ∈ lw_good := bq_tg (bq_tb2 (List.mem_of_getElem? (i := 157) rfl)) rfl
theorem sl_X4_reset : Cond.selects RX4 yX4_reset yX4_reset ∈ lw_good := bq_tg (bq_tb2 (List.mem_of_getElem? (i := 158) rfl)) rfl
theorem cd_X4_reset : Cond.code yX4_reset cX4_reset 2 none ∈ lw_good := bq_tg (bq_tb2 (List.mem_of_getElem? (i := 159) rfl)) rfl
theorem ml_X4_20 : Cond.methodLink RX4 20 yX5_movingStepFrom ∈ lw_good := bq_tg (bq_tb2 (List.mem_of_getElem? (i := 160) rfl)) rfl
theorem im_X5_movingStepFrom : Cond.instanceMethod yX5_movingStepFrom ∈ lw_good := bq_tg (bq_tb2 (List.mem_of_getElem? (i := 161) rfl)) rfl
theorem sl_X5_movingStepFrom : Cond.selects RX5 yX5_movingStepFrom yX5_movingStepFrom ∈ lw_good := bq_tg (bq_tb2 (List.mem_of_getElem? (i := 162) rfl)) rfl
theorem cd_X5_movingStepFrom : Cond.code yX5_movingStepFrom cX5_movingStepFrom 3 (some .int) ∈ lw_good := bq_tg (bq_tb2 (List.mem_of_getElem? (i := 163) rfl)) rfl
theorem ml_X4_26 : Cond.methodLink RX4 26 yX4_makeDue ∈ lw_good := bq_tg (bq_tb2 (List.mem_of_getElem? (i := 164) rfl)) rfl
theorem im_X4_makeDue : Cond.instanceMethod yX4_makeDue ∈ lw_good := bq_tg (bq_tb2 (List.mem_of_getElem? (i := 166) rfl)) rfl
theorem cd_X4_makeDue : Cond.code yX4_makeDue cX4_makeDue 4 none ∈ lw_good := bq_tg (bq_tb2 (List.mem_of_getElem? (i := 167) rfl)) rfl
theorem ml_L_121 : Cond.methodLink RL 121 yX7_errorKind ∈ lw_good := bq_tg (bq_tb2 (List.mem_of_getElem? (i := 168) rfl)) rfl
theorem im_X7_errorKind : Cond.instanceMethod yX7_errorKind ∈ lw_good := bq_tg (bq_tb2 (List.mem_of_getElem? (i := 169) rfl)) rfl
theorem sl_X7_errorKind : Cond.selects RX7 yX7_errorKind yX7_errorKind ∈ lw_good := bq_tg (bq_tb2 (List.mem_of_getElem? (i := 170) rfl)) rfl
theorem cd_X7_errorKind : Cond.code yX7_errorKind cX7_errorKind 1 (some .int) ∈ lw_good := bq_tg (bq_tb2 (List.mem_of_getElem? (i := 171) rfl)) rfl
theorem ml_L_125 : Cond.methodLink RL 125 yX7_steps ∈ lw_good := bq_tg (bq_tb2 (List.mem_of_getElem? (i := 172) rfl)) rfl
theorem im_X7_steps : Cond.instanceMethod yX7_steps ∈ lw_good := bq_tg (bq_tb2 (List.mem_of_getElem? (i := 173) rfl)) rfl
theorem sl_X7_steps : Cond.selects RX7 yX7_steps yX7_steps ∈ lw_good := bq_tg (bq_tb2 (List.mem_of_getElem? (i := 174) rfl)) rfl
theorem cd_X7_steps : Cond.code yX7_steps cX7_steps 1 (some .int) ∈ lw_good := bq_tg (bq_tb2 (List.mem_of_getElem? (i := 175) rfl)) rfl
theorem ml_L_164 : Cond.methodLink RL 164 yX7_setStart ∈ lw_good := bq_tg (bq_tb2 (List.mem_of_getElem? (i := 176) rfl)) rfl
theorem im_X7_setStart : Cond.instanceMethod yX7_setStart ∈ lw_good := bq_tg (bq_tb2 (List.mem_of_getElem? (i := 177) rfl)) rfl
theorem sl_X7_setStart : Cond.selects RX7 yX7_setStart yX7_setStart ∈ lw_good := bq_tg (bq_tb2 (List.mem_of_getElem? (i := 178) rfl)) rfl
theorem cd_X7_setStart : Cond.code yX7_setStart cX7_setStart 3 (some .boolean) ∈ lw_good := bq_tg (bq_tb2 (List.mem_of_getElem? (i := 179) rfl)) rfl
theorem ml_L_173 : Cond.methodLink RL 173 yX7_rest ∈ lw_good := bq_tg (bq_tb2 (List.mem_of_getElem? (i := 180) rfl)) rfl
theorem im_X7_rest : Cond.instanceMethod yX7_rest ∈ lw_good := bq_tg (bq_tb2 (List.mem_of_getElem? (i := 181) rfl)) rfl
theorem sl_X7_rest : Cond.selects RX7 yX7_rest yX7_rest ∈ lw_good := bq_tg (bq_tb2 (List.mem_of_getElem? (i := 182) rfl)) rfl
theorem cd_X7_rest : Cond.code yX7_rest cX7_rest 2 (some .int) ∈ lw_good := bq_tg (bq_tb2 (List.mem_of_getElem? (i := 183) rfl)) rfl
theorem ml_L_180 : Cond.methodLink RL 180 yX7_time ∈ lw_good := bq_tg (bq_tb2 (List.mem_of_getElem? (i := 184) rfl)) rfl
theorem im_X7_time : Cond.instanceMethod yX7_time ∈ lw_good := bq_tg (bq_tb2 (List.mem_of_getElem? (i := 185) rfl)) rfl
theorem sl_X7_time : Cond.selects RX7 yX7_time yX7_time ∈ lw_good := bq_tg (bq_tb2 (List.mem_of_getElem? (i := 186) rfl)) rfl
theorem cd_X7_time : Cond.code yX7_time cX7_time 1 (some .int) ∈ lw_good := bq_tg (bq_tb2 (List.mem_of_getElem? (i := 187) rfl)) rfl
theorem ml_L_196 : Cond.methodLink RL 196 yX7_active ∈ lw_good := bq_tg (bq_tb2 (List.mem_of_getElem? (i := 188) rfl)) rfl
theorem im_X7_active : Cond.instanceMethod yX7_active ∈ lw_good := bq_tg (bq_tb2 (List.mem_of_getElem? (i := 189) rfl)) rfl
theorem sl_X7_active : Cond.selects RX7 yX7_active yX7_active ∈ lw_good := bq_tg (bq_tb2 (List.mem_of_getElem? (i := 190) rfl)) rfl
theorem cd_X7_active : Cond.code yX7_active cX7_active 1 (some .int) ∈ lw_good := bq_tg (bq_tb2 (List.mem_of_getElem? (i := 191) rfl)) rfl
theorem ml_L_203 : Cond.methodLink RL 203 yX7_events ∈ lw_good := bq_tg (bq_tb2 (List.mem_of_getElem? (i := 192) rfl)) rfl
theorem im_X7_events : Cond.instanceMethod yX7_events ∈ lw_good := bq_tg (bq_tb2 (List.mem_of_getElem? (i := 193) rfl)) rfl
theorem sl_X7_events : Cond.selects RX7 yX7_events yX7_events ∈ lw_good := bq_tg (bq_tb2 (List.mem_of_getElem? (i := 194) rfl)) rfl
theorem cd_X7_events : Cond.code yX7_events cX7_events 1 (some .int) ∈ lw_good := bq_tg (bq_tb2 (List.mem_of_getElem? (i := 195) rfl)) rfl
theorem ml_L_213 : Cond.methodLink RL 213 yX7_rightEvents ∈ lw_good := bq_tg (bq_tb2 (List.mem_of_getElem? (i := 196) rfl)) rfl
theorem im_X7_rightEvents : Cond.instanceMethod yX7_rightEvents ∈ lw_good := bq_tg (bq_tb2 (List.mem_of_getElem? (i := 197) rfl)) rfl
theorem sl_X7_rightEvents : Cond.selects RX7 yX7_rightEvents yX7_rightEvents ∈ lw_good := bq_tg (bq_tb2 (List.mem_of_getElem? (i := 198) rfl)) rfl
theorem cd_X7_rightEvents : Cond.code yX7_rightEvents cX7_rightEvents 1 (some .int) ∈ lw_good := bq_tg (bq_tb2 (List.mem_of_getElem? (i := 199) rfl)) rfl
theorem ml_L_217 : Cond.methodLink RL 217 yX7_cycles ∈ lw_good := bq_tg (bq_tb2 (List.mem_of_getElem? (i := 200) rfl)) rfl
theorem im_X7_cycles : Cond.instanceMethod yX7_cycles ∈ lw_good := bq_tg (bq_tb2 (List.mem_of_getElem? (i := 201) rfl)) rfl
theorem sl_X7_cycles : Cond.selects RX7 yX7_cycles yX7_cycles ∈ lw_good := bq_tg (bq_tb2 (List.mem_of_getElem? (i := 202) rfl)) rfl
theorem cd_X7_cycles : Cond.code yX7_cycles cX7_cycles 1 (some .int) ∈ lw_good := bq_tg (bq_tb2 (List.mem_of_getElem? (i := 203) rfl)) rfl
theorem ml_L_221 : Cond.methodLink RL 221 yX7_quiet ∈ lw_good := bq_tg (bq_tb2 (List.mem_of_getElem? (i := 204) rfl)) rfl
theorem im_X7_quiet : Cond.instanceMethod yX7_quiet ∈ lw_good := bq_tg (bq_tb2 (List.mem_of_getElem? (i := 205) rfl)) rfl
theorem sl_X7_quiet : Cond.selects RX7 yX7_quiet yX7_quiet ∈ lw_good := bq_tg (bq_tb2 (List.mem_of_getElem? (i := 206) rfl)) rfl
theorem cd_X7_quiet : Cond.code yX7_quiet cX7_quiet 1 (some .int) ∈ lw_good := bq_tg (bq_tb2 (List.mem_of_getElem? (i := 207) rfl)) rfl
theorem ml_L_241 : Cond.methodLink RL 241 yX7_fingerprint ∈ lw_good := bq_tg (bq_tb2 (List.mem_of_getElem? (i := 208) rfl)) rfl
theorem im_X7_fingerprint : Cond.instanceMethod yX7_fingerprint ∈ lw_good := bq_tg (bq_tb2 (List.mem_of_getElem? (i := 209) rfl)) rfl
theorem sl_X7_fingerprint : Cond.selects RX7 yX7_fingerprint yX7_fingerprint ∈ lw_good := bq_tg (bq_tb2 (List.mem_of_getElem? (i := 210) rfl)) rfl
theorem cd_X7_fingerprint : Cond.code yX7_fingerprint cX7_fingerprint 4 (some .long) ∈ lw_good := bq_tg (bq_tb2 (List.mem_of_getElem? (i := 211) rfl)) rfl
theorem ct_X7_245 : Cond.constantLong RX7 245 19 ∈ lw_good := bq_tg (bq_tb2 (List.mem_of_getElem? (i := 212) rfl)) rfl
theorem ct_X7_247 : Cond.constantLong RX7 247 31 ∈ lw_good := bq_tg (bq_tb2 (List.mem_of_getElem? (i := 213) rfl)) rfl
theorem ml_X7_249 : Cond.methodLink RX7 249 yX7_quiet ∈ lw_good := bq_tg (bq_tb2 (List.mem_of_getElem? (i := 214) rfl)) rfl
theorem ml_X7_100 : Cond.methodLink RX7 100 yX7_holds ∈ lw_good := bq_tg (bq_tb2 (List.mem_of_getElem? (i := 215) rfl)) rfl
theorem ml_X7_201 : Cond.methodLink RX7 201 yX0_commandsOf ∈ lw_good := bq_tg (bq_tb2 (List.mem_of_getElem? (i := 216) rfl)) rfl
theorem im_X0_commandsOf : Cond.instanceMethod yX0_commandsOf ∈ lw_good := bq_tg (bq_tb2 (List.mem_of_getElem? (i := 217) rfl)) rfl
theorem sl_X0_commandsOf : Cond.selects RX0 yX0_commandsOf yX0_commandsOf ∈ lw_good := bq_tg (bq_tb2 (List.mem_of_getElem? (i := 218) rfl)) rfl
theorem cd_X0_commandsOf : Cond.code yX0_commandsOf cX0_commandsOf 2 (some .int) ∈ lw_good := bq_tg (bq_tb2 (List.mem_of_getElem? (i := 219) rfl)) rfl
theorem ml_L_104 : Cond.methodLink RL 104 yL_type ∈ lw_good := bq_tg (bq_tb2 (List.mem_of_getElem? (i := 221) rfl)) rfl
theorem st_L_type : Cond.static yL_type ∈ lw_good := bq_tg (bq_tb2 (List.mem_of_getElem? (i := 222) rfl)) rfl
theorem cw_L_type : Cond.codeWith yL_type cL_type 4 (some .int) [(0, 9, 12, 13), (0, 9, 15, 15)] ∈ lw_good := bq_tg (bq_tb2 (List.mem_of_getElem? (i := 223) rfl)) rfl
theorem cl_L_13 : Cond.classLink RL 13 "java/lang/IllegalArgumentException" ∈ lw_good := bq_tg (bq_tb2 (List.mem_of_getElem? (i := 224) rfl)) rfl
theorem cl_L_15 : Cond.classLink RL 15 "java/lang/IllegalStateException" ∈ lw_good := bq_tg (bq_tb2 (List.mem_of_getElem? (i := 225) rfl)) rfl
theorem ml_L_7 : Cond.methodLink RL 7 yX7_type ∈ lw_good := bq_tg (bq_tb2 (List.mem_of_getElem? (i := 226) rfl)) rfl
theorem im_X7_type : Cond.instanceMethod yX7_type ∈ lw_good := bq_tg (bq_tb2 (List.mem_of_getElem? (i := 227) rfl)) rfl
theorem sl_X7_type : Cond.selects RX7 yX7_type yX7_type ∈ lw_good := bq_tg (bq_tb2 (List.mem_of_getElem? (i := 228) rfl)) rfl
theorem cd_X7_type : Cond.code yX7_type cX7_type 2 (some .int) ∈ lw_good := bq_tg (bq_tb2 (List.mem_of_getElem? (i := 229) rfl)) rfl
theorem cl_X7_46 : Cond.classLink RX7 46 "java/lang/IllegalArgumentException" ∈ lw_good := bq_tg (bq_tb2 (List.mem_of_getElem? (i := 230) rfl)) rfl
theorem ml_X7_50 : Cond.methodLink RX7 50 ⟨"java/lang/IllegalArgumentException", "<init>", "(Ljava/lang/String;)V"⟩ ∈ lw_good := bq_tg (bq_tb3 (List.mem_of_getElem? (i := 32) rfl)) rfl
theorem ac_byte : Cond.arrayClass .byte ∈ lw_good := bq_tg (bq_tb3 (List.mem_of_getElem? (i := 57) rfl)) rfl
theorem cl_X7_56 : Cond.classLink RX7 56 "java/lang/IllegalStateException" ∈ lw_good := bq_tg (bq_tb3 (List.mem_of_getElem? (i := 58) rfl)) rfl
theorem ml_X7_60 : Cond.methodLink RX7 60 ⟨"java/lang/IllegalStateException", "<init>", "(Ljava/lang/String;)V"⟩ ∈ lw_good := bq_tg (bq_tb3 (List.mem_of_getElem? (i := 68) rfl)) rfl
theorem ml_X7_61 : Cond.methodLink RX7 61 yX2_append ∈ lw_good := bq_tg (bq_tb3 (List.mem_of_getElem? (i := 74) rfl)) rfl
theorem im_X2_append : Cond.instanceMethod yX2_append ∈ lw_good := bq_tg (bq_tb3 (List.mem_of_getElem? (i := 75) rfl)) rfl
theorem sl_X2_append : Cond.selects RX2 yX2_append yX2_append ∈ lw_good := bq_tg (bq_tb3 (List.mem_of_getElem? (i := 76) rfl)) rfl
theorem cd_X2_append : Cond.code yX2_append cX2_append 2 none ∈ lw_good := bq_tg (bq_tb3 (List.mem_of_getElem? (i := 77) rfl)) rfl
theorem ml_L_129 : Cond.methodLink RL 129 yL_moves ∈ lw_good := bq_tg (bq_tb3 (List.mem_of_getElem? (i := 78) rfl)) rfl
theorem st_L_moves : Cond.static yL_moves ∈ lw_good := bq_tg (bq_tb3 (List.mem_of_getElem? (i := 79) rfl)) rfl
theorem cw_L_moves : Cond.codeWith yL_moves cL_moves 4 (some .int) [(0, 9, 12, 20)] ∈ lw_good := bq_tg (bq_tb3 (List.mem_of_getElem? (i := 80) rfl)) rfl
theorem cl_L_20 : Cond.classLink RL 20 "java/lang/IndexOutOfBoundsException" ∈ lw_good := bq_tg (bq_tb3 (List.mem_of_getElem? (i := 81) rfl)) rfl
theorem ml_L_17 : Cond.methodLink RL 17 yX7_moves ∈ lw_good := bq_tg (bq_tb3 (List.mem_of_getElem? (i := 82) rfl)) rfl
theorem im_X7_moves : Cond.instanceMethod yX7_moves ∈ lw_good := bq_tg (bq_tb3 (List.mem_of_getElem? (i := 83) rfl)) rfl
theorem sl_X7_moves : Cond.selects RX7 yX7_moves yX7_moves ∈ lw_good := bq_tg (bq_tb3 (List.mem_of_getElem? (i := 84) rfl)) rfl
theorem cd_X7_moves : Cond.code yX7_moves cX7_moves 2 (some .int) ∈ lw_good := bq_tg (bq_tb3 (List.mem_of_getElem? (i := 85) rfl)) rfl
theorem ml_X7_86 : Cond.methodLink RX7 86 yX7_checkStep ∈ lw_good := bq_tg (bq_tb3 (List.mem_of_getElem? (i := 86) rfl)) rfl
theorem im_X7_checkStep : Cond.instanceMethod yX7_checkStep ∈ lw_good := bq_tg (bq_tb3 (List.mem_of_getElem? (i := 88) rfl)) rfl
theorem cd_X7_checkStep : Cond.code yX7_checkStep cX7_checkStep 2 none ∈ lw_good := bq_tg (bq_tb3 (List.mem_of_getElem? (i := 89) rfl)) rfl
theorem cl_X7_120 : Cond.classLink RX7 120 "java/lang/IndexOutOfBoundsException" ∈ lw_good := bq_tg (bq_tb3 (List.mem_of_getElem? (i := 90) rfl)) rfl
theorem ml_X7_124 : Cond.methodLink RX7 124 ⟨"java/lang/IndexOutOfBoundsException", "<init>", "(Ljava/lang/String;)V"⟩ ∈ lw_good := bq_tg (bq_tb3 (List.mem_of_getElem? (i := 100) rfl)) rfl
theorem ml_X7_89 : Cond.methodLink RX7 89 yX5_movesIn ∈ lw_good := bq_tg (bq_tb3 (List.mem_of_getElem? (i := 106) rfl)) rfl
theorem ml_L_132 : Cond.methodLink RL 132 yL_direction ∈ lw_good := bq_tg (bq_tb3 (List.mem_of_getElem? (i := 107) rfl)) rfl
theorem st_L_direction : Cond.static yL_direction ∈ lw_good := bq_tg (bq_tb3 (List.mem_of_getElem? (i := 108) rfl)) rfl
theorem cw_L_direction : Cond.codeWith yL_direction cL_direction 5 (some .int) [(0, 10, 13, 20)] ∈ lw_good := bq_tg (bq_tb3 (List.mem_of_getElem? (i := 109) rfl)) rfl
theorem ml_L_22 : Cond.methodLink RL 22 yX7_direction ∈ lw_good := bq_tg (bq_tb3 (List.mem_of_getElem? (i := 110) rfl)) rfl
theorem im_X7_direction : Cond.instanceMethod yX7_direction ∈ lw_good := bq_tg (bq_tb3 (List.mem_of_getElem? (i := 111) rfl)) rfl
theorem sl_X7_direction : Cond.selects RX7 yX7_direction yX7_direction ∈ lw_good := bq_tg (bq_tb3 (List.mem_of_getElem? (i := 112) rfl)) rfl
theorem cd_X7_direction : Cond.code yX7_direction cX7_direction 3 (some .int) ∈ lw_good := bq_tg (bq_tb3 (List.mem_of_getElem? (i := 113) rfl)) rfl
theorem ml_X7_93 : Cond.methodLink RX7 93 yX7_checkCylinder ∈ lw_good := bq_tg (bq_tb3 (List.mem_of_getElem? (i := 114) rfl)) rfl
theorem st_X7_checkCylinder : Cond.static yX7_checkCylinder ∈ lw_good := bq_tg (bq_tb3 (List.mem_of_getElem? (i := 115) rfl)) rfl
theorem cd_X7_checkCylinder : Cond.code yX7_checkCylinder cX7_checkCylinder 1 none ∈ lw_good := bq_tg (bq_tb3 (List.mem_of_getElem? (i := 116) rfl)) rfl
theorem ml_L_136 : Cond.methodLink RL 136 yL_pause ∈ lw_good := bq_tg (bq_tb3 (List.mem_of_getElem? (i := 118) rfl)) rfl
theorem st_L_pause : Cond.static yL_pause ∈ lw_good := bq_tg (bq_tb3 (List.mem_of_getElem? (i := 119) rfl)) rfl
theorem cw_L_pause : Cond.codeWith yL_pause cL_pause 4 (some .int) [(0, 9, 12, 20)] ∈ lw_good := bq_tg (bq_tb3 (List.mem_of_getElem? (i := 120) rfl)) rfl
theorem ml_L_26 : Cond.methodLink RL 26 yX7_pause ∈ lw_good := bq_tg (bq_tb3 (List.mem_of_getElem? (i := 121) rfl)) rfl
theorem im_X7_pause : Cond.instanceMethod yX7_pause ∈ lw_good := bq_tg (bq_tb3 (List.mem_of_getElem? (i := 122) rfl)) rfl
theorem sl_X7_pause : Cond.selects RX7 yX7_pause yX7_pause ∈ lw_good := bq_tg (bq_tb3 (List.mem_of_getElem? (i := 123) rfl)) rfl
theorem cd_X7_pause : Cond.code yX7_pause cX7_pause 2 (some .int) ∈ lw_good := bq_tg (bq_tb3 (List.mem_of_getElem? (i := 124) rfl)) rfl
theorem ml_L_139 : Cond.methodLink RL 139 yL_clashes ∈ lw_good := bq_tg (bq_tb3 (List.mem_of_getElem? (i := 125) rfl)) rfl
theorem st_L_clashes : Cond.static yL_clashes ∈ lw_good := bq_tg (bq_tb3 (List.mem_of_getElem? (i := 126) rfl)) rfl
theorem cw_L_clashes : Cond.codeWith yL_clashes cL_clashes 3 (some .int) [(0, 8, 11, 15)] ∈ lw_good := bq_tg (bq_tb3 (List.mem_of_getElem? (i := 127) rfl)) rfl
theorem ml_L_29 : Cond.methodLink RL 29 yX7_clashes ∈ lw_good := bq_tg (bq_tb3 (List.mem_of_getElem? (i := 128) rfl)) rfl
theorem im_X7_clashes : Cond.instanceMethod yX7_clashes ∈ lw_good := bq_tg (bq_tb3 (List.mem_of_getElem? (i := 129) rfl)) rfl
theorem sl_X7_clashes : Cond.selects RX7 yX7_clashes yX7_clashes ∈ lw_good := bq_tg (bq_tb3 (List.mem_of_getElem? (i := 130) rfl)) rfl
theorem cd_X7_clashes : Cond.code yX7_clashes cX7_clashes 4 (some .int) ∈ lw_good := bq_tg (bq_tb3 (List.mem_of_getElem? (i := 131) rfl)) rfl
theorem ml_X7_110 : Cond.methodLink RX7 110 yX7_checkSequence ∈ lw_good := bq_tg (bq_tb3 (List.mem_of_getElem? (i := 132) rfl)) rfl
theorem im_X7_checkSequence : Cond.instanceMethod yX7_checkSequence ∈ lw_good := bq_tg (bq_tb3 (List.mem_of_getElem? (i := 134) rfl)) rfl
theorem cd_X7_checkSequence : Cond.code yX7_checkSequence cX7_checkSequence 1 none ∈ lw_good := bq_tg (bq_tb3 (List.mem_of_getElem? (i := 135) rfl)) rfl
theorem ml_X7_113 : Cond.methodLink RX7 113 yX5_firstClash ∈ lw_good := bq_tg (bq_tb3 (List.mem_of_getElem? (i := 137) rfl)) rfl
theorem im_X5_firstClash : Cond.instanceMethod yX5_firstClash ∈ lw_good := bq_tg (bq_tb3 (List.mem_of_getElem? (i := 138) rfl)) rfl
theorem sl_X5_firstClash : Cond.selects RX5 yX5_firstClash yX5_firstClash ∈ lw_good := bq_tg (bq_tb3 (List.mem_of_getElem? (i := 139) rfl)) rfl
theorem cd_X5_firstClash : Cond.code yX5_firstClash cX5_firstClash 6 (some .int) ∈ lw_good := bq_tg (bq_tb3 (List.mem_of_getElem? (i := 140) rfl)) rfl
theorem ml_X5_48 : Cond.methodLink RX5 48 yX5_stepBefore ∈ lw_good := bq_tg (bq_tb3 (List.mem_of_getElem? (i := 142) rfl)) rfl
theorem im_X5_stepBefore : Cond.instanceMethod yX5_stepBefore ∈ lw_good := bq_tg (bq_tb3 (List.mem_of_getElem? (i := 143) rfl)) rfl
theorem sl_X5_stepBefore : Cond.selects RX5 yX5_stepBefore yX5_stepBefore ∈ lw_good := bq_tg (bq_tb3 (List.mem_of_getElem? (i := 144) rfl)) rfl
theorem cd_X5_stepBefore : Cond.code yX5_stepBefore cX5_stepBefore 2 (some .int) ∈ lw_good := bq_tg (bq_tb3 (List.mem_of_getElem? (i := 145) rfl)) rfl
theorem ml_X5_51 : Cond.methodLink RX5 51 yX5_endsReached ∈ lw_good := bq_tg (bq_tb3 (List.mem_of_getElem? (i := 146) rfl)) rfl
theorem im_X5_endsReached : Cond.instanceMethod yX5_endsReached ∈ lw_good := bq_tg (bq_tb3 (List.mem_of_getElem? (i := 148) rfl)) rfl
theorem cd_X5_endsReached : Cond.code yX5_endsReached cX5_endsReached 3 (some .boolean) ∈ lw_good := bq_tg (bq_tb3 (List.mem_of_getElem? (i := 149) rfl)) rfl
theorem ml_L_143 : Cond.methodLink RL 143 yL_clash ∈ lw_good := bq_tg (bq_tb3 (List.mem_of_getElem? (i := 150) rfl)) rfl
theorem st_L_clash : Cond.static yL_clash ∈ lw_good := bq_tg (bq_tb3 (List.mem_of_getElem? (i := 151) rfl)) rfl
theorem cw_L_clash : Cond.codeWith yL_clash cL_clash 5 (some .int) [(0, 10, 13, 20)] ∈ lw_good := bq_tg (bq_tb3 (List.mem_of_getElem? (i := 152) rfl)) rfl
theorem ml_L_33 : Cond.methodLink RL 33 yX7_clash ∈ lw_good := bq_tg (bq_tb3 (List.mem_of_getElem? (i := 153) rfl)) rfl
theorem im_X7_clash : Cond.instanceMethod yX7_clash ∈ lw_good := bq_tg (bq_tb3 (List.mem_of_getElem? (i := 154) rfl)) rfl
theorem sl_X7_clash : Cond.selects RX7 yX7_clash yX7_clash ∈ lw_good := bq_tg (bq_tb3 (List.mem_of_getElem? (i := 155) rfl)) rfl
theorem cd_X7_clash : Cond.code yX7_clash cX7_clash 3 (some .int) ∈ lw_good := bq_tg (bq_tb3 (List.mem_of_getElem? (i := 156) rfl)) rfl
theorem ml_L_146 : Cond.methodLink RL 146 yL_groups ∈ lw_good := bq_tg (bq_tb3 (List.mem_of_getElem? (i := 157) rfl)) rfl
theorem st_L_groups : Cond.static yL_groups ∈ lw_good := bq_tg (bq_tb3 (List.mem_of_getElem? (i := 158) rfl)) rfl
theorem cw_L_groups : Cond.codeWith yL_groups cL_groups 3 (some .int) [(0, 8, 11, 15)] ∈ lw_good := bq_tg (bq_tb3 (List.mem_of_getElem? (i := 159) rfl)) rfl
theorem ml_L_36 : Cond.methodLink RL 36 yX7_groups ∈ lw_good := bq_tg (bq_tb3 (List.mem_of_getElem? (i := 160) rfl)) rfl
theorem im_X7_groups : Cond.instanceMethod yX7_groups ∈ lw_good := bq_tg (bq_tb3 (List.mem_of_getElem? (i := 161) rfl)) rfl
theorem sl_X7_groups : Cond.selects RX7 yX7_groups yX7_groups ∈ lw_good := bq_tg (bq_tb3 (List.mem_of_getElem? (i := 162) rfl)) rfl
theorem cd_X7_groups : Cond.code yX7_groups cX7_groups 1 (some .int) ∈ lw_good := bq_tg (bq_tb3 (List.mem_of_getElem? (i := 163) rfl)) rfl
theorem ml_L_149 : Cond.methodLink RL 149 yL_cut ∈ lw_good := bq_tg (bq_tb3 (List.mem_of_getElem? (i := 164) rfl)) rfl
theorem st_L_cut : Cond.static yL_cut ∈ lw_good := bq_tg (bq_tb3 (List.mem_of_getElem? (i := 165) rfl)) rfl
theorem cw_L_cut : Cond.codeWith yL_cut cL_cut 4 (some .int) [(0, 9, 12, 20)] ∈ lw_good := bq_tg (bq_tb3 (List.mem_of_getElem? (i := 166) rfl)) rfl
theorem ml_L_39 : Cond.methodLink RL 39 yX7_cut ∈ lw_good := bq_tg (bq_tb3 (List.mem_of_getElem? (i := 167) rfl)) rfl
theorem im_X7_cut : Cond.instanceMethod yX7_cut ∈ lw_good := bq_tg (bq_tb3 (List.mem_of_getElem? (i := 168) rfl)) rfl
theorem sl_X7_cut : Cond.selects RX7 yX7_cut yX7_cut ∈ lw_good := bq_tg (bq_tb3 (List.mem_of_getElem? (i := 169) rfl)) rfl
theorem cd_X7_cut : Cond.code yX7_cut cX7_cut 2 (some .int) ∈ lw_good := bq_tg (bq_tb3 (List.mem_of_getElem? (i := 170) rfl)) rfl
theorem ml_L_152 : Cond.methodLink RL 152 yL_groupOf ∈ lw_good := bq_tg (bq_tb3 (List.mem_of_getElem? (i := 172) rfl)) rfl
theorem st_L_groupOf : Cond.static yL_groupOf ∈ lw_good := bq_tg (bq_tb3 (List.mem_of_getElem? (i := 173) rfl)) rfl
theorem cw_L_groupOf : Cond.codeWith yL_groupOf cL_groupOf 4 (some .int) [(0, 9, 12, 20)] ∈ lw_good := bq_tg (bq_tb3 (List.mem_of_getElem? (i := 174) rfl)) rfl
theorem ml_L_42 : Cond.methodLink RL 42 yX7_groupOf ∈ lw_good := bq_tg (bq_tb3 (List.mem_of_getElem? (i := 175) rfl)) rfl
theorem im_X7_groupOf : Cond.instanceMethod yX7_groupOf ∈ lw_good := bq_tg (bq_tb3 (List.mem_of_getElem? (i := 176) rfl)) rfl
theorem sl_X7_groupOf : Cond.selects RX7 yX7_groupOf yX7_groupOf ∈ lw_good := bq_tg (bq_tb3 (List.mem_of_getElem? (i := 177) rfl)) rfl
theorem cd_X7_groupOf : Cond.code yX7_groupOf cX7_groupOf 2 (some .int) ∈ lw_good := bq_tg (bq_tb3 (List.mem_of_getElem? (i := 178) rfl)) rfl
theorem ml_L_155 : Cond.methodLink RL 155 yL_valves ∈ lw_good := bq_tg (bq_tb3 (List.mem_of_getElem? (i := 179) rfl)) rfl
theorem st_L_valves : Cond.static yL_valves ∈ lw_good := bq_tg (bq_tb3 (List.mem_of_getElem? (i := 180) rfl)) rfl
theorem cw_L_valves : Cond.codeWith yL_valves cL_valves 4 (some .int) [(0, 9, 12, 13), (0, 9, 15, 15)] ∈ lw_good := bq_tg (bq_tb3 (List.mem_of_getElem? (i := 181) rfl)) rfl
theorem ml_L_45 : Cond.methodLink RL 45 yX7_valves ∈ lw_good := bq_tg (bq_tb3 (List.mem_of_getElem? (i := 182) rfl)) rfl
theorem im_X7_valves : Cond.instanceMethod yX7_valves ∈ lw_good := bq_tg (bq_tb3 (List.mem_of_getElem? (i := 183) rfl)) rfl
theorem sl_X7_valves : Cond.selects RX7 yX7_valves yX7_valves ∈ lw_good := bq_tg (bq_tb3 (List.mem_of_getElem? (i := 184) rfl)) rfl
theorem cd_X7_valves : Cond.code yX7_valves cX7_valves 2 (some .int) ∈ lw_good := bq_tg (bq_tb3 (List.mem_of_getElem? (i := 185) rfl)) rfl
theorem ml_X7_131 : Cond.methodLink RX7 131 yX7_checkMethod ∈ lw_good := bq_tg (bq_tb3 (List.mem_of_getElem? (i := 186) rfl)) rfl
theorem st_X7_checkMethod : Cond.static yX7_checkMethod ∈ lw_good := bq_tg (bq_tb3 (List.mem_of_getElem? (i := 187) rfl)) rfl
theorem cd_X7_checkMethod : Cond.code yX7_checkMethod cX7_checkMethod 1 none ∈ lw_good := bq_tg (bq_tb3 (List.mem_of_getElem? (i := 188) rfl)) rfl
theorem ml_X7_134 : Cond.methodLink RX7 134 yX7_countValves ∈ lw_good := bq_tg (bq_tb3 (List.mem_of_getElem? (i := 190) rfl)) rfl
theorem im_X7_countValves : Cond.instanceMethod yX7_countValves ∈ lw_good := bq_tg (bq_tb3 (List.mem_of_getElem? (i := 192) rfl)) rfl
theorem cd_X7_countValves : Cond.code yX7_countValves cX7_countValves 3 (some .int) ∈ lw_good := bq_tg (bq_tb3 (List.mem_of_getElem? (i := 193) rfl)) rfl
theorem ml_X7_264 : Cond.methodLink RX7 264 yX5_movingCylinders ∈ lw_good := bq_tg (bq_tb3 (List.mem_of_getElem? (i := 194) rfl)) rfl
theorem ml_X7_267 : Cond.methodLink RX7 267 yJ6_bitCount_0f7a4 ∈ lw_good := bq_tg (bq_tb3 (List.mem_of_getElem? (i := 195) rfl)) rfl
theorem st_J6_bitCount_0f7a4 : Cond.static yJ6_bitCount_0f7a4 ∈ lw_good := bq_tg (bq_tb3 (List.mem_of_getElem? (i := 196) rfl)) rfl
theorem cd_J6_bitCount_0f7a4 : Cond.code yJ6_bitCount_0f7a4 cJ6_bitCount_0f7a4 1 (some .int) ∈ lw_good := bq_tg (bq_tb3 (List.mem_of_getElem? (i := 197) rfl)) rfl
theorem ct_J6_265 : Cond.constant RJ6 265 1431655765 ∈ lw_good := bq_tg (bq_tb3 (List.mem_of_getElem? (i := 198) rfl)) rfl
theorem ct_J6_266 : Cond.constant RJ6 266 858993459 ∈ lw_good := bq_tg (bq_tb3 (List.mem_of_getElem? (i := 199) rfl)) rfl
theorem ct_J6_267 : Cond.constant RJ6 267 252645135 ∈ lw_good := bq_tg (bq_tb3 (List.mem_of_getElem? (i := 200) rfl)) rfl
theorem ml_L_158 : Cond.methodLink RL 158 yL_setMethod ∈ lw_good := bq_tg (bq_tb3 (List.mem_of_getElem? (i := 201) rfl)) rfl
theorem st_L_setMethod : Cond.static yL_setMethod ∈ lw_good := bq_tg (bq_tb3 (List.mem_of_getElem? (i := 202) rfl)) rfl
theorem cw_L_setMethod : Cond.codeWith yL_setMethod cL_setMethod 4 (some .int) [(0, 9, 12, 13)] ∈ lw_good := bq_tg (bq_tb3 (List.mem_of_getElem? (i := 203) rfl)) rfl
theorem ml_L_48 : Cond.methodLink RL 48 yX7_setMethod ∈ lw_good := bq_tg (bq_tb3 (List.mem_of_getElem? (i := 204) rfl)) rfl
theorem im_X7_setMethod : Cond.instanceMethod yX7_setMethod ∈ lw_good := bq_tg (bq_tb3 (List.mem_of_getElem? (i := 205) rfl)) rfl
theorem sl_X7_setMethod : Cond.selects RX7 yX7_setMethod yX7_setMethod ∈ lw_good := bq_tg (bq_tb3 (List.mem_of_getElem? (i := 206) rfl)) rfl
theorem cd_X7_setMethod : Cond.code yX7_setMethod cX7_setMethod 3 (some .int) ∈ lw_good := bq_tg (bq_tb3 (List.mem_of_getElem? (i := 207) rfl)) rfl
theorem ml_L_161 : Cond.methodLink RL 161 yL_setStroke ∈ lw_good := bq_tg (bq_tb3 (List.mem_of_getElem? (i := 208) rfl)) rfl
theorem st_L_setStroke : Cond.static yL_setStroke ∈ lw_good := bq_tg (bq_tb3 (List.mem_of_getElem? (i := 209) rfl)) rfl
theorem cw_L_setStroke : Cond.codeWith yL_setStroke cL_setStroke 5 (some .int) [(0, 10, 13, 20), (0, 10, 17, 13)] ∈ lw_good := bq_tg (bq_tb3 (List.mem_of_getElem? (i := 210) rfl)) rfl
theorem ml_L_51 : Cond.methodLink RL 51 yX7_setStroke ∈ lw_good := bq_tg (bq_tb3 (List.mem_of_getElem? (i := 211) rfl)) rfl
theorem im_X7_setStroke : Cond.instanceMethod yX7_setStroke ∈ lw_good := bq_tg (bq_tb3 (List.mem_of_getElem? (i := 212) rfl)) rfl
theorem sl_X7_setStroke : Cond.selects RX7 yX7_setStroke yX7_setStroke ∈ lw_good := bq_tg (bq_tb3 (List.mem_of_getElem? (i := 213) rfl)) rfl
theorem cd_X7_setStroke : Cond.code yX7_setStroke cX7_setStroke 4 (some .int) ∈ lw_good := bq_tg (bq_tb3 (List.mem_of_getElem? (i := 214) rfl)) rfl
theorem ml_L_169 : Cond.methodLink RL 169 yL_setFault ∈ lw_good := bq_tg (bq_tb3 (List.mem_of_getElem? (i := 216) rfl)) rfl
theorem st_L_setFault : Cond.static yL_setFault ∈ lw_good := bq_tg (bq_tb3 (List.mem_of_getElem? (i := 217) rfl)) rfl
theorem cw_L_setFault : Cond.codeWith yL_setFault cL_setFault 6 (some .int) [(0, 19, 22, 20), (0, 19, 26, 13)] ∈ lw_good := bq_tg (bq_tb3 (List.mem_of_getElem? (i := 218) rfl)) rfl
theorem ml_L_54 : Cond.methodLink RL 54 yX7_setFault ∈ lw_good := bq_tg (bq_tb3 (List.mem_of_getElem? (i := 219) rfl)) rfl
theorem im_X7_setFault : Cond.instanceMethod yX7_setFault ∈ lw_good := bq_tg (bq_tb3 (List.mem_of_getElem? (i := 220) rfl)) rfl
theorem sl_X7_setFault : Cond.selects RX7 yX7_setFault yX7_setFault ∈ lw_good := bq_tg (bq_tb3 (List.mem_of_getElem? (i := 221) rfl)) rfl
theorem cd_X7_setFault : Cond.code yX7_setFault cX7_setFault 5 (some .boolean) ∈ lw_good := bq_tg (bq_tb3 (List.mem_of_getElem? (i := 222) rfl)) rfl
theorem ml_X7_155 : Cond.methodLink RX7 155 yX7_checkFaultKind ∈ lw_good := bq_tg (bq_tb3 (List.mem_of_getElem? (i := 223) rfl)) rfl
theorem st_X7_checkFaultKind : Cond.static yX7_checkFaultKind ∈ lw_good := bq_tg (bq_tb3 (List.mem_of_getElem? (i := 224) rfl)) rfl
theorem cd_X7_checkFaultKind : Cond.code yX7_checkFaultKind cX7_checkFaultKind 1 none ∈ lw_good := bq_tg (bq_tb3 (List.mem_of_getElem? (i := 225) rfl)) rfl
theorem ml_X7_161 : Cond.methodLink RX7 161 yX3_putFault ∈ lw_good := bq_tg (bq_tb3 (List.mem_of_getElem? (i := 227) rfl)) rfl
theorem im_X3_putFault : Cond.instanceMethod yX3_putFault ∈ lw_good := bq_tg (bq_tb3 (List.mem_of_getElem? (i := 228) rfl)) rfl
theorem sl_X3_putFault : Cond.selects RX3 yX3_putFault yX3_putFault ∈ lw_good := bq_tg (bq_tb3 (List.mem_of_getElem? (i := 229) rfl)) rfl
theorem cd_X3_putFault : Cond.code yX3_putFault cX3_putFault 4 none ∈ lw_good := bq_tg (bq_tb3 (List.mem_of_getElem? (i := 230) rfl)) rfl
theorem ml_L_177 : Cond.methodLink RL 177 yL_ticks ∈ lw_good := bq_tg (bq_tb3 (List.mem_of_getElem? (i := 231) rfl)) rfl
theorem st_L_ticks : Cond.static yL_ticks ∈ lw_good := bq_tg (bq_tb3 (List.mem_of_getElem? (i := 232) rfl)) rfl
theorem cw_L_ticks : Cond.codeWith yL_ticks cL_ticks 4 (some .int) [(0, 9, 12, 13), (0, 9, 15, 15)] ∈ lw_good := bq_tg (bq_tb3 (List.mem_of_getElem? (i := 233) rfl)) rfl
theorem ml_L_58 : Cond.methodLink RL 58 yX7_ticks ∈ lw_good := bq_tg (bq_tb3 (List.mem_of_getElem? (i := 234) rfl)) rfl
theorem im_X7_ticks : Cond.instanceMethod yX7_ticks ∈ lw_good := bq_tg (bq_tb3 (List.mem_of_getElem? (i := 235) rfl)) rfl
theorem sl_X7_ticks : Cond.selects RX7 yX7_ticks yX7_ticks ∈ lw_good := bq_tg (bq_tb3 (List.mem_of_getElem? (i := 236) rfl)) rfl
theorem cd_X7_ticks : Cond.code yX7_ticks cX7_ticks 3 (some .int) ∈ lw_good := bq_tg (bq_tb3 (List.mem_of_getElem? (i := 237) rfl)) rfl
theorem ml_X7_177 : Cond.methodLink RX7 177 yX3_run ∈ lw_good := bq_tg (bq_tb3 (List.mem_of_getElem? (i := 239) rfl)) rfl
theorem im_X3_run : Cond.instanceMethod yX3_run ∈ lw_good := bq_tg (bq_tb4 (List.mem_of_getElem? (i := 0) rfl)) rfl
theorem sl_X3_run : Cond.selects RX3 yX3_run yX3_run ∈ lw_good := bq_tg (bq_tb4 (List.mem_of_getElem? (i := 1) rfl)) rfl
theorem cd_X3_run : Cond.code yX3_run cX3_run 3 none ∈ lw_good := bq_tg (bq_tb4 (List.mem_of_getElem? (i := 2) rfl)) rfl
theorem ml_X3_91 : Cond.methodLink RX3 91 yX3_makeTick ∈ lw_good := bq_tg (bq_tb4 (List.mem_of_getElem? (i := 3) rfl)) rfl
theorem im_X3_makeTick : Cond.instanceMethod yX3_makeTick ∈ lw_good := bq_tg (bq_tb4 (List.mem_of_getElem? (i := 4) rfl)) rfl
theorem sl_X3_makeTick : Cond.selects RX3 yX3_makeTick yX3_makeTick ∈ lw_good := bq_tg (bq_tb4 (List.mem_of_getElem? (i := 5) rfl)) rfl
theorem cd_X3_makeTick : Cond.code yX3_makeTick cX3_makeTick 4 none ∈ lw_good := bq_tg (bq_tb4 (List.mem_of_getElem? (i := 6) rfl)) rfl
theorem ml_X3_94 : Cond.methodLink RX3 94 yX3_completeSteps ∈ lw_good := bq_tg (bq_tb4 (List.mem_of_getElem? (i := 7) rfl)) rfl
theorem im_X3_completeSteps : Cond.instanceMethod yX3_completeSteps ∈ lw_good := bq_tg (bq_tb4 (List.mem_of_getElem? (i := 9) rfl)) rfl
theorem cd_X3_completeSteps : Cond.code yX3_completeSteps cX3_completeSteps 5 (some .int) ∈ lw_good := bq_tg (bq_tb4 (List.mem_of_getElem? (i := 10) rfl)) rfl
theorem ml_X3_115 : Cond.methodLink RX3 115 yX3_sensedRetracted ∈ lw_good := bq_tg (bq_tb4 (List.mem_of_getElem? (i := 11) rfl)) rfl
theorem im_X3_sensedRetracted : Cond.instanceMethod yX3_sensedRetracted ∈ lw_good := bq_tg (bq_tb4 (List.mem_of_getElem? (i := 12) rfl)) rfl
theorem sl_X3_sensedRetracted : Cond.selects RX3 yX3_sensedRetracted yX3_sensedRetracted ∈ lw_good := bq_tg (bq_tb4 (List.mem_of_getElem? (i := 13) rfl)) rfl
theorem cd_X3_sensedRetracted : Cond.code yX3_sensedRetracted cX3_sensedRetracted 3 (some .int) ∈ lw_good := bq_tg (bq_tb4 (List.mem_of_getElem? (i := 14) rfl)) rfl
theorem ml_X3_118 : Cond.methodLink RX3 118 yX3_sensedExtended ∈ lw_good := bq_tg (bq_tb4 (List.mem_of_getElem? (i := 15) rfl)) rfl
theorem im_X3_sensedExtended : Cond.instanceMethod yX3_sensedExtended ∈ lw_good := bq_tg (bq_tb4 (List.mem_of_getElem? (i := 16) rfl)) rfl
theorem sl_X3_sensedExtended : Cond.selects RX3 yX3_sensedExtended yX3_sensedExtended ∈ lw_good := bq_tg (bq_tb4 (List.mem_of_getElem? (i := 17) rfl)) rfl
theorem cd_X3_sensedExtended : Cond.code yX3_sensedExtended cX3_sensedExtended 3 (some .int) ∈ lw_good := bq_tg (bq_tb4 (List.mem_of_getElem? (i := 18) rfl)) rfl
theorem ml_X3_98 : Cond.methodLink RX3 98 yX0_decide ∈ lw_good := bq_tg (bq_tb4 (List.mem_of_getElem? (i := 19) rfl)) rfl
theorem im_X0_decide : Cond.instanceMethod yX0_decide ∈ lw_good := bq_tg (bq_tb4 (List.mem_of_getElem? (i := 20) rfl)) rfl
theorem sl_X0_decide : Cond.selects RX0 yX0_decide yX0_decide ∈ lw_good := bq_tg (bq_tb4 (List.mem_of_getElem? (i := 21) rfl)) rfl
theorem cd_X0_decide : Cond.code yX0_decide cX0_decide 5 none ∈ lw_good := bq_tg (bq_tb4 (List.mem_of_getElem? (i := 22) rfl)) rfl
theorem ml_X0_36 : Cond.methodLink RX0 36 yX0_readySteps ∈ lw_good := bq_tg (bq_tb4 (List.mem_of_getElem? (i := 23) rfl)) rfl
theorem im_X0_readySteps : Cond.instanceMethod yX0_readySteps ∈ lw_good := bq_tg (bq_tb4 (List.mem_of_getElem? (i := 25) rfl)) rfl
theorem cd_X0_readySteps : Cond.code yX0_readySteps cX0_readySteps 5 (some .int) ∈ lw_good := bq_tg (bq_tb4 (List.mem_of_getElem? (i := 26) rfl)) rfl
theorem ml_X0_55 : Cond.methodLink RX0 55 yX5_stepBefore ∈ lw_good := bq_tg (bq_tb4 (List.mem_of_getElem? (i := 27) rfl)) rfl
theorem ml_X0_40 : Cond.methodLink RX0 40 yX0_decideDirect ∈ lw_good := bq_tg (bq_tb4 (List.mem_of_getElem? (i := 28) rfl)) rfl
theorem im_X0_decideDirect : Cond.instanceMethod yX0_decideDirect ∈ lw_good := bq_tg (bq_tb4 (List.mem_of_getElem? (i := 30) rfl)) rfl
theorem cd_X0_decideDirect : Cond.code yX0_decideDirect cX0_decideDirect 4 none ∈ lw_good := bq_tg (bq_tb4 (List.mem_of_getElem? (i := 31) rfl)) rfl
theorem ml_X0_75 : Cond.methodLink RX0 75 yX0_switchOn ∈ lw_good := bq_tg (bq_tb4 (List.mem_of_getElem? (i := 32) rfl)) rfl
theorem im_X0_switchOn : Cond.instanceMethod yX0_switchOn ∈ lw_good := bq_tg (bq_tb4 (List.mem_of_getElem? (i := 34) rfl)) rfl
theorem cd_X0_switchOn : Cond.code yX0_switchOn cX0_switchOn 3 none ∈ lw_good := bq_tg (bq_tb4 (List.mem_of_getElem? (i := 35) rfl)) rfl
theorem ml_X0_44 : Cond.methodLink RX0 44 yX0_decideCascade ∈ lw_good := bq_tg (bq_tb4 (List.mem_of_getElem? (i := 36) rfl)) rfl
theorem im_X0_decideCascade : Cond.instanceMethod yX0_decideCascade ∈ lw_good := bq_tg (bq_tb4 (List.mem_of_getElem? (i := 38) rfl)) rfl
theorem cd_X0_decideCascade : Cond.code yX0_decideCascade cX0_decideCascade 6 none ∈ lw_good := bq_tg (bq_tb4 (List.mem_of_getElem? (i := 39) rfl)) rfl
theorem ml_X0_78 : Cond.methodLink RX0 78 yX5_firstStepOf ∈ lw_good := bq_tg (bq_tb4 (List.mem_of_getElem? (i := 40) rfl)) rfl
theorem im_X5_firstStepOf : Cond.instanceMethod yX5_firstStepOf ∈ lw_good := bq_tg (bq_tb4 (List.mem_of_getElem? (i := 41) rfl)) rfl
theorem sl_X5_firstStepOf : Cond.selects RX5 yX5_firstStepOf yX5_firstStepOf ∈ lw_good := bq_tg (bq_tb4 (List.mem_of_getElem? (i := 42) rfl)) rfl
theorem cd_X5_firstStepOf : Cond.code yX5_firstStepOf cX5_firstStepOf 2 (some .int) ∈ lw_good := bq_tg (bq_tb4 (List.mem_of_getElem? (i := 43) rfl)) rfl
theorem ml_X0_47 : Cond.methodLink RX0 47 yX0_decideStepper ∈ lw_good := bq_tg (bq_tb4 (List.mem_of_getElem? (i := 44) rfl)) rfl
theorem im_X0_decideStepper : Cond.instanceMethod yX0_decideStepper ∈ lw_good := bq_tg (bq_tb4 (List.mem_of_getElem? (i := 46) rfl)) rfl
theorem cd_X0_decideStepper : Cond.code yX0_decideStepper cX0_decideStepper 4 none ∈ lw_good := bq_tg (bq_tb4 (List.mem_of_getElem? (i := 47) rfl)) rfl
theorem ml_X3_102 : Cond.methodLink RX3 102 yX3_shiftValves ∈ lw_good := bq_tg (bq_tb4 (List.mem_of_getElem? (i := 48) rfl)) rfl
theorem im_X3_shiftValves : Cond.instanceMethod yX3_shiftValves ∈ lw_good := bq_tg (bq_tb4 (List.mem_of_getElem? (i := 50) rfl)) rfl
theorem cd_X3_shiftValves : Cond.code yX3_shiftValves cX3_shiftValves 6 (some .boolean) ∈ lw_good := bq_tg (bq_tb4 (List.mem_of_getElem? (i := 51) rfl)) rfl
theorem ml_X3_145 : Cond.methodLink RX3 145 yX1_note ∈ lw_good := bq_tg (bq_tb4 (List.mem_of_getElem? (i := 53) rfl)) rfl
theorem im_X1_note : Cond.instanceMethod yX1_note ∈ lw_good := bq_tg (bq_tb4 (List.mem_of_getElem? (i := 54) rfl)) rfl
theorem sl_X1_note : Cond.selects RX1 yX1_note yX1_note ∈ lw_good := bq_tg (bq_tb4 (List.mem_of_getElem? (i := 55) rfl)) rfl
theorem cd_X1_note : Cond.code yX1_note cX1_note 3 none ∈ lw_good := bq_tg (bq_tb4 (List.mem_of_getElem? (i := 56) rfl)) rfl
theorem ml_X1_28 : Cond.methodLink RX1 28 yJ9_min_7cf53 ∈ lw_good := bq_tg (bq_tb4 (List.mem_of_getElem? (i := 57) rfl)) rfl
theorem st_J9_min_7cf53 : Cond.static yJ9_min_7cf53 ∈ lw_good := bq_tg (bq_tb4 (List.mem_of_getElem? (i := 58) rfl)) rfl
theorem cd_J9_min_7cf53 : Cond.code yJ9_min_7cf53 cJ9_min_7cf53 2 (some .int) ∈ lw_good := bq_tg (bq_tb4 (List.mem_of_getElem? (i := 59) rfl)) rfl
theorem ml_X3_149 : Cond.methodLink RX3 149 yX4_judge ∈ lw_good := bq_tg (bq_tb4 (List.mem_of_getElem? (i := 60) rfl)) rfl
theorem im_X4_judge : Cond.instanceMethod yX4_judge ∈ lw_good := bq_tg (bq_tb4 (List.mem_of_getElem? (i := 61) rfl)) rfl
theorem sl_X4_judge : Cond.selects RX4 yX4_judge yX4_judge ∈ lw_good := bq_tg (bq_tb4 (List.mem_of_getElem? (i := 62) rfl)) rfl
theorem cd_X4_judge : Cond.code yX4_judge cX4_judge 5 none ∈ lw_good := bq_tg (bq_tb4 (List.mem_of_getElem? (i := 63) rfl)) rfl
theorem ml_X3_106 : Cond.methodLink RX3 106 yX3_movePistons ∈ lw_good := bq_tg (bq_tb4 (List.mem_of_getElem? (i := 65) rfl)) rfl
theorem im_X3_movePistons : Cond.instanceMethod yX3_movePistons ∈ lw_good := bq_tg (bq_tb4 (List.mem_of_getElem? (i := 67) rfl)) rfl
theorem cd_X3_movePistons : Cond.code yX3_movePistons cX3_movePistons 4 (some .boolean) ∈ lw_good := bq_tg (bq_tb4 (List.mem_of_getElem? (i := 68) rfl)) rfl
theorem ml_X3_109 : Cond.methodLink RX3 109 yX3_advanceTimers ∈ lw_good := bq_tg (bq_tb4 (List.mem_of_getElem? (i := 69) rfl)) rfl
theorem im_X3_advanceTimers : Cond.instanceMethod yX3_advanceTimers ∈ lw_good := bq_tg (bq_tb4 (List.mem_of_getElem? (i := 71) rfl)) rfl
theorem cd_X3_advanceTimers : Cond.code yX3_advanceTimers cX3_advanceTimers 4 (some .boolean) ∈ lw_good := bq_tg (bq_tb4 (List.mem_of_getElem? (i := 72) rfl)) rfl
theorem ml_X3_155 : Cond.methodLink RX3 155 yJ9_min_7cf53 ∈ lw_good := bq_tg (bq_tb4 (List.mem_of_getElem? (i := 73) rfl)) rfl
theorem ml_L_184 : Cond.methodLink RL 184 yL_position ∈ lw_good := bq_tg (bq_tb4 (List.mem_of_getElem? (i := 74) rfl)) rfl
theorem st_L_position : Cond.static yL_position ∈ lw_good := bq_tg (bq_tb4 (List.mem_of_getElem? (i := 75) rfl)) rfl
theorem cw_L_position : Cond.codeWith yL_position cL_position 4 (some .int) [(0, 9, 12, 20)] ∈ lw_good := bq_tg (bq_tb4 (List.mem_of_getElem? (i := 76) rfl)) rfl
theorem ml_L_61 : Cond.methodLink RL 61 yX7_position ∈ lw_good := bq_tg (bq_tb4 (List.mem_of_getElem? (i := 77) rfl)) rfl
theorem im_X7_position : Cond.instanceMethod yX7_position ∈ lw_good := bq_tg (bq_tb4 (List.mem_of_getElem? (i := 78) rfl)) rfl
theorem sl_X7_position : Cond.selects RX7 yX7_position yX7_position ∈ lw_good := bq_tg (bq_tb4 (List.mem_of_getElem? (i := 79) rfl)) rfl
theorem cd_X7_position : Cond.code yX7_position cX7_position 2 (some .int) ∈ lw_good := bq_tg (bq_tb4 (List.mem_of_getElem? (i := 80) rfl)) rfl
theorem ml_L_187 : Cond.methodLink RL 187 yL_isOut ∈ lw_good := bq_tg (bq_tb4 (List.mem_of_getElem? (i := 81) rfl)) rfl
theorem st_L_isOut : Cond.static yL_isOut ∈ lw_good := bq_tg (bq_tb4 (List.mem_of_getElem? (i := 82) rfl)) rfl
theorem cw_L_isOut : Cond.codeWith yL_isOut cL_isOut 4 (some .int) [(0, 16, 19, 20)] ∈ lw_good := bq_tg (bq_tb4 (List.mem_of_getElem? (i := 83) rfl)) rfl
theorem ml_L_64 : Cond.methodLink RL 64 yX7_isOut ∈ lw_good := bq_tg (bq_tb4 (List.mem_of_getElem? (i := 84) rfl)) rfl
theorem im_X7_isOut : Cond.instanceMethod yX7_isOut ∈ lw_good := bq_tg (bq_tb4 (List.mem_of_getElem? (i := 85) rfl)) rfl
theorem sl_X7_isOut : Cond.selects RX7 yX7_isOut yX7_isOut ∈ lw_good := bq_tg (bq_tb4 (List.mem_of_getElem? (i := 86) rfl)) rfl
theorem cd_X7_isOut : Cond.code yX7_isOut cX7_isOut 2 (some .boolean) ∈ lw_good := bq_tg (bq_tb4 (List.mem_of_getElem? (i := 87) rfl)) rfl
theorem ml_L_190 : Cond.methodLink RL 190 yL_sensor ∈ lw_good := bq_tg (bq_tb4 (List.mem_of_getElem? (i := 88) rfl)) rfl
theorem st_L_sensor : Cond.static yL_sensor ∈ lw_good := bq_tg (bq_tb4 (List.mem_of_getElem? (i := 89) rfl)) rfl
theorem cw_L_sensor : Cond.codeWith yL_sensor cL_sensor 5 (some .int) [(0, 17, 20, 20)] ∈ lw_good := bq_tg (bq_tb4 (List.mem_of_getElem? (i := 90) rfl)) rfl
theorem ml_L_68 : Cond.methodLink RL 68 yX7_sensor ∈ lw_good := bq_tg (bq_tb4 (List.mem_of_getElem? (i := 91) rfl)) rfl
theorem im_X7_sensor : Cond.instanceMethod yX7_sensor ∈ lw_good := bq_tg (bq_tb4 (List.mem_of_getElem? (i := 92) rfl)) rfl
theorem sl_X7_sensor : Cond.selects RX7 yX7_sensor yX7_sensor ∈ lw_good := bq_tg (bq_tb4 (List.mem_of_getElem? (i := 93) rfl)) rfl
theorem cd_X7_sensor : Cond.code yX7_sensor cX7_sensor 3 (some .boolean) ∈ lw_good := bq_tg (bq_tb4 (List.mem_of_getElem? (i := 94) rfl)) rfl
theorem ml_X7_188 : Cond.methodLink RX7 188 yX3_sensedRetracted ∈ lw_good := bq_tg (bq_tb4 (List.mem_of_getElem? (i := 96) rfl)) rfl
theorem ml_X7_192 : Cond.methodLink RX7 192 yX3_sensedExtended ∈ lw_good := bq_tg (bq_tb4 (List.mem_of_getElem? (i := 97) rfl)) rfl
theorem ml_L_193 : Cond.methodLink RL 193 yL_timer ∈ lw_good := bq_tg (bq_tb4 (List.mem_of_getElem? (i := 98) rfl)) rfl
theorem st_L_timer : Cond.static yL_timer ∈ lw_good := bq_tg (bq_tb4 (List.mem_of_getElem? (i := 99) rfl)) rfl
theorem cw_L_timer : Cond.codeWith yL_timer cL_timer 4 (some .int) [(0, 9, 12, 20)] ∈ lw_good := bq_tg (bq_tb4 (List.mem_of_getElem? (i := 100) rfl)) rfl
theorem ml_L_72 : Cond.methodLink RL 72 yX7_timer ∈ lw_good := bq_tg (bq_tb4 (List.mem_of_getElem? (i := 101) rfl)) rfl
theorem im_X7_timer : Cond.instanceMethod yX7_timer ∈ lw_good := bq_tg (bq_tb4 (List.mem_of_getElem? (i := 102) rfl)) rfl
theorem sl_X7_timer : Cond.selects RX7 yX7_timer yX7_timer ∈ lw_good := bq_tg (bq_tb4 (List.mem_of_getElem? (i := 103) rfl)) rfl
theorem cd_X7_timer : Cond.code yX7_timer cX7_timer 2 (some .int) ∈ lw_good := bq_tg (bq_tb4 (List.mem_of_getElem? (i := 104) rfl)) rfl
theorem ml_L_200 : Cond.methodLink RL 200 yL_commands ∈ lw_good := bq_tg (bq_tb4 (List.mem_of_getElem? (i := 105) rfl)) rfl
theorem st_L_commands : Cond.static yL_commands ∈ lw_good := bq_tg (bq_tb4 (List.mem_of_getElem? (i := 106) rfl)) rfl
theorem cw_L_commands : Cond.codeWith yL_commands cL_commands 4 (some .int) [(0, 9, 12, 20)] ∈ lw_good := bq_tg (bq_tb4 (List.mem_of_getElem? (i := 107) rfl)) rfl
theorem ml_L_75 : Cond.methodLink RL 75 yX7_commands ∈ lw_good := bq_tg (bq_tb4 (List.mem_of_getElem? (i := 108) rfl)) rfl
theorem im_X7_commands : Cond.instanceMethod yX7_commands ∈ lw_good := bq_tg (bq_tb4 (List.mem_of_getElem? (i := 109) rfl)) rfl
theorem sl_X7_commands : Cond.selects RX7 yX7_commands yX7_commands ∈ lw_good := bq_tg (bq_tb4 (List.mem_of_getElem? (i := 110) rfl)) rfl
theorem cd_X7_commands : Cond.code yX7_commands cX7_commands 2 (some .int) ∈ lw_good := bq_tg (bq_tb4 (List.mem_of_getElem? (i := 111) rfl)) rfl
theorem ml_L_207 : Cond.methodLink RL 207 yL_eventTime ∈ lw_good := bq_tg (bq_tb4 (List.mem_of_getElem? (i := 112) rfl)) rfl
theorem st_L_eventTime : Cond.static yL_eventTime ∈ lw_good := bq_tg (bq_tb4 (List.mem_of_getElem? (i := 113) rfl)) rfl
theorem cw_L_eventTime : Cond.codeWith yL_eventTime cL_eventTime 4 (some .int) [(0, 9, 12, 20)] ∈ lw_good := bq_tg (bq_tb4 (List.mem_of_getElem? (i := 114) rfl)) rfl
theorem ml_L_78 : Cond.methodLink RL 78 yX7_eventTime ∈ lw_good := bq_tg (bq_tb4 (List.mem_of_getElem? (i := 115) rfl)) rfl
theorem im_X7_eventTime : Cond.instanceMethod yX7_eventTime ∈ lw_good := bq_tg (bq_tb4 (List.mem_of_getElem? (i := 116) rfl)) rfl
theorem sl_X7_eventTime : Cond.selects RX7 yX7_eventTime yX7_eventTime ∈ lw_good := bq_tg (bq_tb4 (List.mem_of_getElem? (i := 117) rfl)) rfl
theorem cd_X7_eventTime : Cond.code yX7_eventTime cX7_eventTime 3 (some .int) ∈ lw_good := bq_tg (bq_tb4 (List.mem_of_getElem? (i := 118) rfl)) rfl
theorem ml_X7_204 : Cond.methodLink RX7 204 yX7_checkEvent ∈ lw_good := bq_tg (bq_tb4 (List.mem_of_getElem? (i := 119) rfl)) rfl
theorem st_X7_checkEvent : Cond.static yX7_checkEvent ∈ lw_good := bq_tg (bq_tb4 (List.mem_of_getElem? (i := 120) rfl)) rfl
theorem cd_X7_checkEvent : Cond.code yX7_checkEvent cX7_checkEvent 1 none ∈ lw_good := bq_tg (bq_tb4 (List.mem_of_getElem? (i := 121) rfl)) rfl
theorem ml_X7_207 : Cond.methodLink RX7 207 yX1_slotOf ∈ lw_good := bq_tg (bq_tb4 (List.mem_of_getElem? (i := 123) rfl)) rfl
theorem im_X1_slotOf : Cond.instanceMethod yX1_slotOf ∈ lw_good := bq_tg (bq_tb4 (List.mem_of_getElem? (i := 124) rfl)) rfl
theorem sl_X1_slotOf : Cond.selects RX1 yX1_slotOf yX1_slotOf ∈ lw_good := bq_tg (bq_tb4 (List.mem_of_getElem? (i := 125) rfl)) rfl
theorem cd_X1_slotOf : Cond.code yX1_slotOf cX1_slotOf 2 (some .int) ∈ lw_good := bq_tg (bq_tb4 (List.mem_of_getElem? (i := 126) rfl)) rfl
theorem ml_L_210 : Cond.methodLink RL 210 yL_eventMove ∈ lw_good := bq_tg (bq_tb4 (List.mem_of_getElem? (i := 127) rfl)) rfl
theorem st_L_eventMove : Cond.static yL_eventMove ∈ lw_good := bq_tg (bq_tb4 (List.mem_of_getElem? (i := 128) rfl)) rfl
theorem cw_L_eventMove : Cond.codeWith yL_eventMove cL_eventMove 4 (some .int) [(0, 9, 12, 20)] ∈ lw_good := bq_tg (bq_tb4 (List.mem_of_getElem? (i := 129) rfl)) rfl
theorem ml_L_81 : Cond.methodLink RL 81 yX7_eventMove ∈ lw_good := bq_tg (bq_tb4 (List.mem_of_getElem? (i := 130) rfl)) rfl
theorem im_X7_eventMove : Cond.instanceMethod yX7_eventMove ∈ lw_good := bq_tg (bq_tb4 (List.mem_of_getElem? (i := 131) rfl)) rfl
theorem sl_X7_eventMove : Cond.selects RX7 yX7_eventMove yX7_eventMove ∈ lw_good := bq_tg (bq_tb4 (List.mem_of_getElem? (i := 132) rfl)) rfl
theorem cd_X7_eventMove : Cond.code yX7_eventMove cX7_eventMove 3 (some .int) ∈ lw_good := bq_tg (bq_tb4 (List.mem_of_getElem? (i := 133) rfl)) rfl
theorem ml_L_225 : Cond.methodLink RL 225 yL_works ∈ lw_good := bq_tg (bq_tb4 (List.mem_of_getElem? (i := 134) rfl)) rfl
theorem st_L_works : Cond.static yL_works ∈ lw_good := bq_tg (bq_tb4 (List.mem_of_getElem? (i := 135) rfl)) rfl
theorem cw_L_works : Cond.codeWith yL_works cL_works 4 (some .int) [(0, 16, 19, 13), (0, 16, 22, 15)] ∈ lw_good := bq_tg (bq_tb4 (List.mem_of_getElem? (i := 136) rfl)) rfl
theorem ml_L_84 : Cond.methodLink RL 84 yX7_works ∈ lw_good := bq_tg (bq_tb4 (List.mem_of_getElem? (i := 137) rfl)) rfl
theorem im_X7_works : Cond.instanceMethod yX7_works ∈ lw_good := bq_tg (bq_tb4 (List.mem_of_getElem? (i := 138) rfl)) rfl
theorem sl_X7_works : Cond.selects RX7 yX7_works yX7_works ∈ lw_good := bq_tg (bq_tb4 (List.mem_of_getElem? (i := 139) rfl)) rfl
theorem cd_X7_works : Cond.code yX7_works cX7_works 2 (some .boolean) ∈ lw_good := bq_tg (bq_tb4 (List.mem_of_getElem? (i := 140) rfl)) rfl
theorem ml_X7_231 : Cond.methodLink RX7 231 yX7_measureCycle ∈ lw_good := bq_tg (bq_tb4 (List.mem_of_getElem? (i := 141) rfl)) rfl
theorem im_X7_measureCycle : Cond.instanceMethod yX7_measureCycle ∈ lw_good := bq_tg (bq_tb4 (List.mem_of_getElem? (i := 143) rfl)) rfl
theorem cd_X7_measureCycle : Cond.code yX7_measureCycle cX7_measureCycle 4 (some .int) ∈ lw_good := bq_tg (bq_tb4 (List.mem_of_getElem? (i := 144) rfl)) rfl
theorem ml_X7_236 : Cond.methodLink RX7 236 yX3_becomeCopyOf ∈ lw_good := bq_tg (bq_tb4 (List.mem_of_getElem? (i := 145) rfl)) rfl
theorem im_X3_becomeCopyOf : Cond.instanceMethod yX3_becomeCopyOf ∈ lw_good := bq_tg (bq_tb4 (List.mem_of_getElem? (i := 146) rfl)) rfl
theorem sl_X3_becomeCopyOf : Cond.selects RX3 yX3_becomeCopyOf yX3_becomeCopyOf ∈ lw_good := bq_tg (bq_tb4 (List.mem_of_getElem? (i := 147) rfl)) rfl
theorem cd_X3_becomeCopyOf : Cond.code yX3_becomeCopyOf cX3_becomeCopyOf 3 none ∈ lw_good := bq_tg (bq_tb4 (List.mem_of_getElem? (i := 148) rfl)) rfl
theorem ml_X3_79 : Cond.methodLink RX3 79 ⟨"java/lang/System", "arraycopy", "(Ljava/lang/Object;ILjava/lang/Object;II)V"⟩ ∈ lw_good := bq_tg (bq_tb4 (List.mem_of_getElem? (i := 149) rfl)) rfl
theorem st_arraycopy : Cond.static arraycopyName ∈ lw_good := bq_tg (bq_tb4 (List.mem_of_getElem? (i := 150) rfl)) rfl
theorem nt_arraycopy : Cond.native arraycopyName ∈ lw_good := bq_tg (bq_tb4 (List.mem_of_getElem? (i := 151) rfl)) rfl
theorem ml_X3_88 : Cond.methodLink RX3 88 yX3_bringToRest ∈ lw_good := bq_tg (bq_tb4 (List.mem_of_getElem? (i := 152) rfl)) rfl
theorem ml_X7_272 : Cond.methodLink RX7 272 yX3_makeTick ∈ lw_good := bq_tg (bq_tb4 (List.mem_of_getElem? (i := 153) rfl)) rfl
theorem ml_L_228 : Cond.methodLink RL 228 yL_cycleTime ∈ lw_good := bq_tg (bq_tb4 (List.mem_of_getElem? (i := 154) rfl)) rfl
theorem st_L_cycleTime : Cond.static yL_cycleTime ∈ lw_good := bq_tg (bq_tb4 (List.mem_of_getElem? (i := 155) rfl)) rfl
theorem cw_L_cycleTime : Cond.codeWith yL_cycleTime cL_cycleTime 4 (some .int) [(0, 9, 12, 13), (0, 9, 15, 15)] ∈ lw_good := bq_tg (bq_tb4 (List.mem_of_getElem? (i := 156) rfl)) rfl
theorem ml_L_87 : Cond.methodLink RL 87 yX7_cycleTime ∈ lw_good := bq_tg (bq_tb4 (List.mem_of_getElem? (i := 157) rfl)) rfl
theorem im_X7_cycleTime : Cond.instanceMethod yX7_cycleTime ∈ lw_good := bq_tg (bq_tb4 (List.mem_of_getElem? (i := 158) rfl)) rfl
theorem sl_X7_cycleTime : Cond.selects RX7 yX7_cycleTime yX7_cycleTime ∈ lw_good := bq_tg (bq_tb4 (List.mem_of_getElem? (i := 159) rfl)) rfl
theorem cd_X7_cycleTime : Cond.code yX7_cycleTime cX7_cycleTime 2 (some .int) ∈ lw_good := bq_tg (bq_tb4 (List.mem_of_getElem? (i := 160) rfl)) rfl
theorem ml_L_231 : Cond.methodLink RL 231 yL_cheapest ∈ lw_good := bq_tg (bq_tb4 (List.mem_of_getElem? (i := 161) rfl)) rfl
theorem st_L_cheapest : Cond.static yL_cheapest ∈ lw_good := bq_tg (bq_tb4 (List.mem_of_getElem? (i := 162) rfl)) rfl
theorem cw_L_cheapest : Cond.codeWith yL_cheapest cL_cheapest 3 (some .int) [(0, 8, 11, 15)] ∈ lw_good := bq_tg (bq_tb4 (List.mem_of_getElem? (i := 163) rfl)) rfl
theorem ml_L_90 : Cond.methodLink RL 90 yX7_cheapest ∈ lw_good := bq_tg (bq_tb4 (List.mem_of_getElem? (i := 164) rfl)) rfl
theorem im_X7_cheapest : Cond.instanceMethod yX7_cheapest ∈ lw_good := bq_tg (bq_tb4 (List.mem_of_getElem? (i := 165) rfl)) rfl
theorem sl_X7_cheapest : Cond.selects RX7 yX7_cheapest yX7_cheapest ∈ lw_good := bq_tg (bq_tb4 (List.mem_of_getElem? (i := 166) rfl)) rfl
theorem cd_X7_cheapest : Cond.code yX7_cheapest cX7_cheapest 5 (some .int) ∈ lw_good := bq_tg (bq_tb4 (List.mem_of_getElem? (i := 167) rfl)) rfl
theorem ml_L_234 : Cond.methodLink RL 234 yL_effect ∈ lw_good := bq_tg (bq_tb4 (List.mem_of_getElem? (i := 168) rfl)) rfl
theorem st_L_effect : Cond.static yL_effect ∈ lw_good := bq_tg (bq_tb4 (List.mem_of_getElem? (i := 169) rfl)) rfl
theorem cw_L_effect : Cond.codeWith yL_effect cL_effect 6 (some .int) [(0, 12, 15, 20), (0, 12, 19, 13), (0, 12, 23, 15)] ∈ lw_good := bq_tg (bq_tb4 (List.mem_of_getElem? (i := 170) rfl)) rfl
theorem ml_L_93 : Cond.methodLink RL 93 yX7_effect ∈ lw_good := bq_tg (bq_tb4 (List.mem_of_getElem? (i := 171) rfl)) rfl
theorem im_X7_effect : Cond.instanceMethod yX7_effect ∈ lw_good := bq_tg (bq_tb4 (List.mem_of_getElem? (i := 172) rfl)) rfl
theorem sl_X7_effect : Cond.selects RX7 yX7_effect yX7_effect ∈ lw_good := bq_tg (bq_tb4 (List.mem_of_getElem? (i := 173) rfl)) rfl
theorem cd_X7_effect : Cond.code yX7_effect cX7_effect 4 (some .int) ∈ lw_good := bq_tg (bq_tb4 (List.mem_of_getElem? (i := 174) rfl)) rfl
theorem ml_L_238 : Cond.methodLink RL 238 yL_suspect ∈ lw_good := bq_tg (bq_tb4 (List.mem_of_getElem? (i := 176) rfl)) rfl
theorem st_L_suspect : Cond.static yL_suspect ∈ lw_good := bq_tg (bq_tb4 (List.mem_of_getElem? (i := 177) rfl)) rfl
theorem cw_L_suspect : Cond.codeWith yL_suspect cL_suspect 4 (some .int) [(0, 9, 12, 20), (0, 9, 15, 15)] ∈ lw_good := bq_tg (bq_tb4 (List.mem_of_getElem? (i := 178) rfl)) rfl
theorem ml_L_97 : Cond.methodLink RL 97 yX7_suspect ∈ lw_good := bq_tg (bq_tb4 (List.mem_of_getElem? (i := 179) rfl)) rfl
theorem im_X7_suspect : Cond.instanceMethod yX7_suspect ∈ lw_good := bq_tg (bq_tb4 (List.mem_of_getElem? (i := 180) rfl)) rfl
theorem sl_X7_suspect : Cond.selects RX7 yX7_suspect yX7_suspect ∈ lw_good := bq_tg (bq_tb4 (List.mem_of_getElem? (i := 181) rfl)) rfl
theorem cd_X7_suspect : Cond.code yX7_suspect cX7_suspect 5 (some .int) ∈ lw_good := bq_tg (bq_tb4 (List.mem_of_getElem? (i := 182) rfl)) rfl
theorem ml_X7_242 : Cond.methodLink RX7 242 yX7_explains ∈ lw_good := bq_tg (bq_tb4 (List.mem_of_getElem? (i := 184) rfl)) rfl
theorem im_X7_explains : Cond.instanceMethod yX7_explains ∈ lw_good := bq_tg (bq_tb4 (List.mem_of_getElem? (i := 186) rfl)) rfl
theorem cd_X7_explains : Cond.code yX7_explains cX7_explains 5 (some .boolean) ∈ lw_good := bq_tg (bq_tb4 (List.mem_of_getElem? (i := 187) rfl)) rfl
theorem ml_X7_281 : Cond.methodLink RX7 281 yJ9_min_7cf53 ∈ lw_good := bq_tg (bq_tb4 (List.mem_of_getElem? (i := 188) rfl)) rfl
theorem ml_X7_286 : Cond.methodLink RX7 286 yX7_runTrialFar ∈ lw_good := bq_tg (bq_tb4 (List.mem_of_getElem? (i := 189) rfl)) rfl
theorem im_X7_runTrialFar : Cond.instanceMethod yX7_runTrialFar ∈ lw_good := bq_tg (bq_tb4 (List.mem_of_getElem? (i := 191) rfl)) rfl
theorem cd_X7_runTrialFar : Cond.code yX7_runTrialFar cX7_runTrialFar 7 none ∈ lw_good := bq_tg (bq_tb4 (List.mem_of_getElem? (i := 192) rfl)) rfl
theorem ml_X7_289 : Cond.methodLink RX7 289 yX6_take ∈ lw_good := bq_tg (bq_tb4 (List.mem_of_getElem? (i := 193) rfl)) rfl
theorem im_X6_take : Cond.instanceMethod yX6_take ∈ lw_good := bq_tg (bq_tb4 (List.mem_of_getElem? (i := 194) rfl)) rfl
theorem sl_X6_take : Cond.selects RX6 yX6_take yX6_take ∈ lw_good := bq_tg (bq_tb4 (List.mem_of_getElem? (i := 195) rfl)) rfl
theorem cd_X6_take : Cond.code yX6_take cX6_take 2 none ∈ lw_good := bq_tg (bq_tb4 (List.mem_of_getElem? (i := 196) rfl)) rfl
theorem ml_X6_21 : Cond.methodLink RX6 21 ⟨"java/lang/System", "arraycopy", "(Ljava/lang/Object;ILjava/lang/Object;II)V"⟩ ∈ lw_good := bq_tg (bq_tb4 (List.mem_of_getElem? (i := 197) rfl)) rfl
theorem ml_X7_293 : Cond.methodLink RX7 293 yX6_matches ∈ lw_good := bq_tg (bq_tb4 (List.mem_of_getElem? (i := 198) rfl)) rfl
theorem im_X6_matches : Cond.instanceMethod yX6_matches ∈ lw_good := bq_tg (bq_tb4 (List.mem_of_getElem? (i := 199) rfl)) rfl
theorem sl_X6_matches : Cond.selects RX6 yX6_matches yX6_matches ∈ lw_good := bq_tg (bq_tb4 (List.mem_of_getElem? (i := 200) rfl)) rfl
theorem cd_X6_matches : Cond.code yX6_matches cX6_matches 4 (some .boolean) ∈ lw_good := bq_tg (bq_tb4 (List.mem_of_getElem? (i := 201) rfl)) rfl
theorem cl_L_101 : Cond.classLink RL 101 RX8 ∈ lw_good := bq_tg (bq_tb4 (List.mem_of_getElem? (i := 202) rfl)) rfl
theorem it_X8 : Cond.instantiable RX8 20 ∈ lw_good := bq_tg (bq_tb4 (List.mem_of_getElem? (i := 203) rfl)) rfl
theorem ml_L_103 : Cond.methodLink RL 103 yX8_init ∈ lw_good := bq_tg (bq_tb4 (List.mem_of_getElem? (i := 204) rfl)) rfl
theorem im_X8_init : Cond.instanceMethod yX8_init ∈ lw_good := bq_tg (bq_tb4 (List.mem_of_getElem? (i := 205) rfl)) rfl
theorem cd_X8_init : Cond.code yX8_init cX8_init 2 none ∈ lw_good := bq_tg (bq_tb4 (List.mem_of_getElem? (i := 206) rfl)) rfl
theorem ml_X8_1 : Cond.methodLink RX8 1 ⟨"java/lang/Object", "<init>", "()V"⟩ ∈ lw_good := bq_tg (bq_tb4 (List.mem_of_getElem? (i := 207) rfl)) rfl
theorem ml_X8_43 : Cond.methodLink RX8 43 yX8_rests ∈ lw_good := bq_tg (bq_tb4 (List.mem_of_getElem? (i := 208) rfl)) rfl
theorem im_X8_rests : Cond.instanceMethod yX8_rests ∈ lw_good := bq_tg (bq_tb4 (List.mem_of_getElem? (i := 210) rfl)) rfl
theorem cd_X8_rests : Cond.code yX8_rests cX8_rests 4 none ∈ lw_good := bq_tg (bq_tb4 (List.mem_of_getElem? (i := 211) rfl)) rfl
theorem ml_X8_51 : Cond.methodLink RX8 51 yX8_in ∈ lw_good := bq_tg (bq_tb4 (List.mem_of_getElem? (i := 212) rfl)) rfl
theorem st_X8_in : Cond.static yX8_in ∈ lw_good := bq_tg (bq_tb4 (List.mem_of_getElem? (i := 213) rfl)) rfl
theorem cd_X8_in : Cond.code yX8_in cX8_in 3 (some .boolean) ∈ lw_good := bq_tg (bq_tb4 (List.mem_of_getElem? (i := 214) rfl)) rfl
theorem ml_X8_148 : Cond.methodLink RX8 148 yX8_firstWithMoves ∈ lw_good := bq_tg (bq_tb4 (List.mem_of_getElem? (i := 215) rfl)) rfl
theorem im_X8_firstWithMoves : Cond.instanceMethod yX8_firstWithMoves ∈ lw_good := bq_tg (bq_tb4 (List.mem_of_getElem? (i := 217) rfl)) rfl
theorem cd_X8_firstWithMoves : Cond.code yX8_firstWithMoves cX8_firstWithMoves 2 (some .int) ∈ lw_good := bq_tg (bq_tb4 (List.mem_of_getElem? (i := 218) rfl)) rfl
theorem ml_X8_152 : Cond.methodLink RX8 152 yX8_movesOf ∈ lw_good := bq_tg (bq_tb4 (List.mem_of_getElem? (i := 219) rfl)) rfl
theorem im_X8_movesOf : Cond.instanceMethod yX8_movesOf ∈ lw_good := bq_tg (bq_tb4 (List.mem_of_getElem? (i := 221) rfl)) rfl
theorem cd_X8_movesOf : Cond.code yX8_movesOf cX8_movesOf 2 (some .int) ∈ lw_good := bq_tg (bq_tb4 (List.mem_of_getElem? (i := 222) rfl)) rfl
theorem fl_X8_7 : Cond.fieldLink RX8 7 RX8 (TX8 0).2.1 (TX8 0).2.2.1 ∈ lw_good := bq_tg (bq_tb4 (List.mem_of_getElem? (i := 223) rfl)) rfl
theorem fl_X8_13 : Cond.fieldLink RX8 13 RX8 (TX8 1).2.1 (TX8 1).2.2.1 ∈ lw_good := bq_tg (bq_tb4 (List.mem_of_getElem? (i := 224) rfl)) rfl
theorem fl_X8_16 : Cond.fieldLink RX8 16 RX8 (TX8 2).2.1 (TX8 2).2.2.1 ∈ lw_good := bq_tg (bq_tb4 (List.mem_of_getElem? (i := 225) rfl)) rfl
theorem fl_X8_47 : Cond.fieldLink RX8 47 RX8 (TX8 3).2.1 (TX8 3).2.2.1 ∈ lw_good := bq_tg (bq_tb4 (List.mem_of_getElem? (i := 226) rfl)) rfl
theorem fl_X8_104 : Cond.fieldLink RX8 104 RX8 (TX8 4).2.1 (TX8 4).2.2.1 ∈ lw_good := bq_tg (bq_tb4 (List.mem_of_getElem? (i := 227) rfl)) rfl
theorem fl_X8_19 : Cond.fieldLink RX8 19 RX8 (TX8 5).2.1 (TX8 5).2.2.1 ∈ lw_good := bq_tg (bq_tb4 (List.mem_of_getElem? (i := 228) rfl)) rfl
theorem fl_X8_22 : Cond.fieldLink RX8 22 RX8 (TX8 6).2.1 (TX8 6).2.2.1 ∈ lw_good := bq_tg (bq_tb4 (List.mem_of_getElem? (i := 229) rfl)) rfl
theorem fl_X8_25 : Cond.fieldLink RX8 25 RX8 (TX8 7).2.1 (TX8 7).2.2.1 ∈ lw_good := bq_tg (bq_tb4 (List.mem_of_getElem? (i := 230) rfl)) rfl
theorem fl_X8_136 : Cond.fieldLink RX8 136 RX8 (TX8 8).2.1 (TX8 8).2.2.1 ∈ lw_good := bq_tg (bq_tb4 (List.mem_of_getElem? (i := 231) rfl)) rfl
theorem fl_X8_28 : Cond.fieldLink RX8 28 RX8 (TX8 9).2.1 (TX8 9).2.2.1 ∈ lw_good := bq_tg (bq_tb4 (List.mem_of_getElem? (i := 232) rfl)) rfl
theorem fl_X8_31 : Cond.fieldLink RX8 31 RX8 (TX8 10).2.1 (TX8 10).2.2.1 ∈ lw_good := bq_tg (bq_tb4 (List.mem_of_getElem? (i := 233) rfl)) rfl
theorem fl_X8_59 : Cond.fieldLink RX8 59 RX8 (TX8 11).2.1 (TX8 11).2.2.1 ∈ lw_good := bq_tg (bq_tb4 (List.mem_of_getElem? (i := 234) rfl)) rfl
theorem fl_X8_94 : Cond.fieldLink RX8 94 RX8 (TX8 12).2.1 (TX8 12).2.2.1 ∈ lw_good := bq_tg (bq_tb4 (List.mem_of_getElem? (i := 235) rfl)) rfl
theorem fl_X8_97 : Cond.fieldLink RX8 97 RX8 (TX8 13).2.1 (TX8 13).2.2.1 ∈ lw_good := bq_tg (bq_tb4 (List.mem_of_getElem? (i := 236) rfl)) rfl
theorem fl_X8_65 : Cond.fieldLink RX8 65 RX8 (TX8 14).2.1 (TX8 14).2.2.1 ∈ lw_good := bq_tg (bq_tb4 (List.mem_of_getElem? (i := 237) rfl)) rfl
theorem fl_X8_34 : Cond.fieldLink RX8 34 RX8 (TX8 15).2.1 (TX8 15).2.2.1 ∈ lw_good := bq_tg (bq_tb4 (List.mem_of_getElem? (i := 238) rfl)) rfl
theorem fl_X8_37 : Cond.fieldLink RX8 37 RX8 (TX8 16).2.1 (TX8 16).2.2.1 ∈ lw_good := bq_tg (bq_tb4 (List.mem_of_getElem? (i := 239) rfl)) rfl
theorem fl_X8_40 : Cond.fieldLink RX8 40 RX8 (TX8 17).2.1 (TX8 17).2.2.1 ∈ lw_good := bq_tg (bq_tb5 (List.mem_of_getElem? (i := 0) rfl)) rfl
theorem fl_X8_71 : Cond.fieldLink RX8 71 RX8 (TX8 18).2.1 (TX8 18).2.2.1 ∈ lw_good := bq_tg (bq_tb5 (List.mem_of_getElem? (i := 1) rfl)) rfl
theorem fl_X8_68 : Cond.fieldLink RX8 68 RX8 (TX8 19).2.1 (TX8 19).2.2.1 ∈ lw_good := bq_tg (bq_tb5 (List.mem_of_getElem? (i := 2) rfl)) rfl
theorem ml_L_110 : Cond.methodLink RL 110 yX8_thrown ∈ lw_good := bq_tg (bq_tb5 (List.mem_of_getElem? (i := 44) rfl)) rfl
theorem im_X8_thrown : Cond.instanceMethod yX8_thrown ∈ lw_good := bq_tg (bq_tb5 (List.mem_of_getElem? (i := 45) rfl)) rfl
theorem sl_X8_thrown : Cond.selects RX8 yX8_thrown yX8_thrown ∈ lw_good := bq_tg (bq_tb5 (List.mem_of_getElem? (i := 46) rfl)) rfl
theorem cd_X8_thrown : Cond.code yX8_thrown cX8_thrown 1 (some .int) ∈ lw_good := bq_tg (bq_tb5 (List.mem_of_getElem? (i := 47) rfl)) rfl
theorem ml_L_109 : Cond.methodLink RL 109 yX8_type ∈ lw_good := bq_tg (bq_tb5 (List.mem_of_getElem? (i := 48) rfl)) rfl
theorem im_X8_type : Cond.instanceMethod yX8_type ∈ lw_good := bq_tg (bq_tb5 (List.mem_of_getElem? (i := 49) rfl)) rfl
theorem sl_X8_type : Cond.selects RX8 yX8_type yX8_type ∈ lw_good := bq_tg (bq_tb5 (List.mem_of_getElem? (i := 50) rfl)) rfl
theorem cd_X8_type : Cond.code yX8_type cX8_type 2 (some .int) ∈ lw_good := bq_tg (bq_tb5 (List.mem_of_getElem? (i := 51) rfl)) rfl
theorem ml_X8_55 : Cond.methodLink RX8 55 yX8_fails ∈ lw_good := bq_tg (bq_tb5 (List.mem_of_getElem? (i := 52) rfl)) rfl
theorem im_X8_fails : Cond.instanceMethod yX8_fails ∈ lw_good := bq_tg (bq_tb5 (List.mem_of_getElem? (i := 54) rfl)) rfl
theorem cd_X8_fails : Cond.code yX8_fails cX8_fails 2 (some .int) ∈ lw_good := bq_tg (bq_tb5 (List.mem_of_getElem? (i := 55) rfl)) rfl
theorem ml_L_116 : Cond.methodLink RL 116 yX8_clearText ∈ lw_good := bq_tg (bq_tb5 (List.mem_of_getElem? (i := 56) rfl)) rfl
theorem im_X8_clearText : Cond.instanceMethod yX8_clearText ∈ lw_good := bq_tg (bq_tb5 (List.mem_of_getElem? (i := 57) rfl)) rfl
theorem sl_X8_clearText : Cond.selects RX8 yX8_clearText yX8_clearText ∈ lw_good := bq_tg (bq_tb5 (List.mem_of_getElem? (i := 58) rfl)) rfl
theorem cd_X8_clearText : Cond.code yX8_clearText cX8_clearText 2 (some .int) ∈ lw_good := bq_tg (bq_tb5 (List.mem_of_getElem? (i := 59) rfl)) rfl
theorem ml_L_120 : Cond.methodLink RL 120 yX8_readSequence ∈ lw_good := bq_tg (bq_tb5 (List.mem_of_getElem? (i := 60) rfl)) rfl
theorem im_X8_readSequence : Cond.instanceMethod yX8_readSequence ∈ lw_good := bq_tg (bq_tb5 (List.mem_of_getElem? (i := 61) rfl)) rfl
theorem sl_X8_readSequence : Cond.selects RX8 yX8_readSequence yX8_readSequence ∈ lw_good := bq_tg (bq_tb5 (List.mem_of_getElem? (i := 62) rfl)) rfl
theorem cd_X8_readSequence : Cond.code yX8_readSequence cX8_readSequence 2 (some .int) ∈ lw_good := bq_tg (bq_tb5 (List.mem_of_getElem? (i := 63) rfl)) rfl
theorem ml_X8_100 : Cond.methodLink RX8 100 yX8_reads ∈ lw_good := bq_tg (bq_tb5 (List.mem_of_getElem? (i := 64) rfl)) rfl
theorem im_X8_reads : Cond.instanceMethod yX8_reads ∈ lw_good := bq_tg (bq_tb5 (List.mem_of_getElem? (i := 66) rfl)) rfl
theorem cd_X8_reads : Cond.code yX8_reads cX8_reads 4 (some .boolean) ∈ lw_good := bq_tg (bq_tb5 (List.mem_of_getElem? (i := 67) rfl)) rfl
theorem ml_X8_91 : Cond.methodLink RX8 91 yX8_readsStep ∈ lw_good := bq_tg (bq_tb5 (List.mem_of_getElem? (i := 68) rfl)) rfl
theorem im_X8_readsStep : Cond.instanceMethod yX8_readsStep ∈ lw_good := bq_tg (bq_tb5 (List.mem_of_getElem? (i := 70) rfl)) rfl
theorem cd_X8_readsStep : Cond.code yX8_readsStep cX8_readsStep 5 (some .int) ∈ lw_good := bq_tg (bq_tb5 (List.mem_of_getElem? (i := 71) rfl)) rfl
theorem ml_X8_62 : Cond.methodLink RX8 62 yX8_letter ∈ lw_good := bq_tg (bq_tb5 (List.mem_of_getElem? (i := 72) rfl)) rfl
theorem im_X8_letter : Cond.instanceMethod yX8_letter ∈ lw_good := bq_tg (bq_tb5 (List.mem_of_getElem? (i := 74) rfl)) rfl
theorem cd_X8_letter : Cond.code yX8_letter cX8_letter 2 (some .int) ∈ lw_good := bq_tg (bq_tb5 (List.mem_of_getElem? (i := 75) rfl)) rfl
theorem ml_X8_74 : Cond.methodLink RX8 74 yX8_readsPause ∈ lw_good := bq_tg (bq_tb5 (List.mem_of_getElem? (i := 76) rfl)) rfl
theorem im_X8_readsPause : Cond.instanceMethod yX8_readsPause ∈ lw_good := bq_tg (bq_tb5 (List.mem_of_getElem? (i := 78) rfl)) rfl
theorem cd_X8_readsPause : Cond.code yX8_readsPause cX8_readsPause 4 (some .int) ∈ lw_good := bq_tg (bq_tb5 (List.mem_of_getElem? (i := 79) rfl)) rfl
theorem ml_X8_88 : Cond.methodLink RX8 88 yX8_isDigit ∈ lw_good := bq_tg (bq_tb5 (List.mem_of_getElem? (i := 80) rfl)) rfl
theorem im_X8_isDigit : Cond.instanceMethod yX8_isDigit ∈ lw_good := bq_tg (bq_tb5 (List.mem_of_getElem? (i := 82) rfl)) rfl
theorem cd_X8_isDigit : Cond.code yX8_isDigit cX8_isDigit 2 (some .boolean) ∈ lw_good := bq_tg (bq_tb5 (List.mem_of_getElem? (i := 83) rfl)) rfl
theorem ml_X8_77 : Cond.methodLink RX8 77 yX8_isMove ∈ lw_good := bq_tg (bq_tb5 (List.mem_of_getElem? (i := 84) rfl)) rfl
theorem im_X8_isMove : Cond.instanceMethod yX8_isMove ∈ lw_good := bq_tg (bq_tb5 (List.mem_of_getElem? (i := 86) rfl)) rfl
theorem cd_X8_isMove : Cond.code yX8_isMove cX8_isMove 2 (some .boolean) ∈ lw_good := bq_tg (bq_tb5 (List.mem_of_getElem? (i := 87) rfl)) rfl
theorem ml_X8_81 : Cond.methodLink RX8 81 yX8_failsAt ∈ lw_good := bq_tg (bq_tb5 (List.mem_of_getElem? (i := 88) rfl)) rfl
theorem im_X8_failsAt : Cond.instanceMethod yX8_failsAt ∈ lw_good := bq_tg (bq_tb5 (List.mem_of_getElem? (i := 90) rfl)) rfl
theorem cd_X8_failsAt : Cond.code yX8_failsAt cX8_failsAt 2 (some .int) ∈ lw_good := bq_tg (bq_tb5 (List.mem_of_getElem? (i := 91) rfl)) rfl
theorem ml_X8_84 : Cond.methodLink RX8 84 yX8_notes ∈ lw_good := bq_tg (bq_tb5 (List.mem_of_getElem? (i := 92) rfl)) rfl
theorem im_X8_notes : Cond.instanceMethod yX8_notes ∈ lw_good := bq_tg (bq_tb5 (List.mem_of_getElem? (i := 94) rfl)) rfl
theorem cd_X8_notes : Cond.code yX8_notes cX8_notes 7 none ∈ lw_good := bq_tg (bq_tb5 (List.mem_of_getElem? (i := 95) rfl)) rfl
theorem ml_X8_107 : Cond.methodLink RX8 107 yX8_divides ∈ lw_good := bq_tg (bq_tb5 (List.mem_of_getElem? (i := 96) rfl)) rfl
theorem im_X8_divides : Cond.instanceMethod yX8_divides ∈ lw_good := bq_tg (bq_tb5 (List.mem_of_getElem? (i := 98) rfl)) rfl
theorem cd_X8_divides : Cond.code yX8_divides cX8_divides 5 none ∈ lw_good := bq_tg (bq_tb5 (List.mem_of_getElem? (i := 99) rfl)) rfl
theorem ml_X8_126 : Cond.methodLink RX8 126 yX8_countOf ∈ lw_good := bq_tg (bq_tb5 (List.mem_of_getElem? (i := 100) rfl)) rfl
theorem st_X8_countOf : Cond.static yX8_countOf ∈ lw_good := bq_tg (bq_tb5 (List.mem_of_getElem? (i := 101) rfl)) rfl
theorem cd_X8_countOf : Cond.code yX8_countOf cX8_countOf 3 (some .int) ∈ lw_good := bq_tg (bq_tb5 (List.mem_of_getElem? (i := 102) rfl)) rfl
theorem ml_X8_129 : Cond.methodLink RX8 129 yX8_isAhead ∈ lw_good := bq_tg (bq_tb5 (List.mem_of_getElem? (i := 103) rfl)) rfl
theorem st_X8_isAhead : Cond.static yX8_isAhead ∈ lw_good := bq_tg (bq_tb5 (List.mem_of_getElem? (i := 104) rfl)) rfl
theorem cd_X8_isAhead : Cond.code yX8_isAhead cX8_isAhead 3 (some .boolean) ∈ lw_good := bq_tg (bq_tb5 (List.mem_of_getElem? (i := 105) rfl)) rfl
theorem ml_X8_133 : Cond.methodLink RX8 133 yX8_areGroups ∈ lw_good := bq_tg (bq_tb5 (List.mem_of_getElem? (i := 106) rfl)) rfl
theorem im_X8_areGroups : Cond.instanceMethod yX8_areGroups ∈ lw_good := bq_tg (bq_tb5 (List.mem_of_getElem? (i := 108) rfl)) rfl
theorem cd_X8_areGroups : Cond.code yX8_areGroups cX8_areGroups 7 (some .boolean) ∈ lw_good := bq_tg (bq_tb5 (List.mem_of_getElem? (i := 109) rfl)) rfl
theorem ml_L_124 : Cond.methodLink RL 124 yX8_errorKind ∈ lw_good := bq_tg (bq_tb5 (List.mem_of_getElem? (i := 110) rfl)) rfl
theorem im_X8_errorKind : Cond.instanceMethod yX8_errorKind ∈ lw_good := bq_tg (bq_tb5 (List.mem_of_getElem? (i := 111) rfl)) rfl
theorem sl_X8_errorKind : Cond.selects RX8 yX8_errorKind yX8_errorKind ∈ lw_good := bq_tg (bq_tb5 (List.mem_of_getElem? (i := 112) rfl)) rfl
theorem cd_X8_errorKind : Cond.code yX8_errorKind cX8_errorKind 1 (some .int) ∈ lw_good := bq_tg (bq_tb5 (List.mem_of_getElem? (i := 113) rfl)) rfl
theorem ml_L_128 : Cond.methodLink RL 128 yX8_steps ∈ lw_good := bq_tg (bq_tb5 (List.mem_of_getElem? (i := 114) rfl)) rfl
theorem im_X8_steps : Cond.instanceMethod yX8_steps ∈ lw_good := bq_tg (bq_tb5 (List.mem_of_getElem? (i := 115) rfl)) rfl
theorem sl_X8_steps : Cond.selects RX8 yX8_steps yX8_steps ∈ lw_good := bq_tg (bq_tb5 (List.mem_of_getElem? (i := 116) rfl)) rfl
theorem cd_X8_steps : Cond.code yX8_steps cX8_steps 1 (some .int) ∈ lw_good := bq_tg (bq_tb5 (List.mem_of_getElem? (i := 117) rfl)) rfl
theorem ml_L_131 : Cond.methodLink RL 131 yX8_moves ∈ lw_good := bq_tg (bq_tb5 (List.mem_of_getElem? (i := 118) rfl)) rfl
theorem im_X8_moves : Cond.instanceMethod yX8_moves ∈ lw_good := bq_tg (bq_tb5 (List.mem_of_getElem? (i := 119) rfl)) rfl
theorem sl_X8_moves : Cond.selects RX8 yX8_moves yX8_moves ∈ lw_good := bq_tg (bq_tb5 (List.mem_of_getElem? (i := 120) rfl)) rfl
theorem cd_X8_moves : Cond.code yX8_moves cX8_moves 2 (some .int) ∈ lw_good := bq_tg (bq_tb5 (List.mem_of_getElem? (i := 121) rfl)) rfl
theorem ml_X8_110 : Cond.methodLink RX8 110 yX8_isStep ∈ lw_good := bq_tg (bq_tb5 (List.mem_of_getElem? (i := 122) rfl)) rfl
theorem im_X8_isStep : Cond.instanceMethod yX8_isStep ∈ lw_good := bq_tg (bq_tb5 (List.mem_of_getElem? (i := 124) rfl)) rfl
theorem cd_X8_isStep : Cond.code yX8_isStep cX8_isStep 2 (some .boolean) ∈ lw_good := bq_tg (bq_tb5 (List.mem_of_getElem? (i := 125) rfl)) rfl
theorem ml_L_135 : Cond.methodLink RL 135 yX8_direction ∈ lw_good := bq_tg (bq_tb5 (List.mem_of_getElem? (i := 126) rfl)) rfl
theorem im_X8_direction : Cond.instanceMethod yX8_direction ∈ lw_good := bq_tg (bq_tb5 (List.mem_of_getElem? (i := 127) rfl)) rfl
theorem sl_X8_direction : Cond.selects RX8 yX8_direction yX8_direction ∈ lw_good := bq_tg (bq_tb5 (List.mem_of_getElem? (i := 128) rfl)) rfl
theorem cd_X8_direction : Cond.code yX8_direction cX8_direction 3 (some .int) ∈ lw_good := bq_tg (bq_tb5 (List.mem_of_getElem? (i := 129) rfl)) rfl
theorem ml_X8_113 : Cond.methodLink RX8 113 yX8_directionOf ∈ lw_good := bq_tg (bq_tb5 (List.mem_of_getElem? (i := 130) rfl)) rfl
theorem im_X8_directionOf : Cond.instanceMethod yX8_directionOf ∈ lw_good := bq_tg (bq_tb5 (List.mem_of_getElem? (i := 132) rfl)) rfl
theorem cd_X8_directionOf : Cond.code yX8_directionOf cX8_directionOf 3 (some .int) ∈ lw_good := bq_tg (bq_tb5 (List.mem_of_getElem? (i := 133) rfl)) rfl
theorem ml_L_138 : Cond.methodLink RL 138 yX8_pause ∈ lw_good := bq_tg (bq_tb5 (List.mem_of_getElem? (i := 134) rfl)) rfl
theorem im_X8_pause : Cond.instanceMethod yX8_pause ∈ lw_good := bq_tg (bq_tb5 (List.mem_of_getElem? (i := 135) rfl)) rfl
theorem sl_X8_pause : Cond.selects RX8 yX8_pause yX8_pause ∈ lw_good := bq_tg (bq_tb5 (List.mem_of_getElem? (i := 136) rfl)) rfl
theorem cd_X8_pause : Cond.code yX8_pause cX8_pause 2 (some .int) ∈ lw_good := bq_tg (bq_tb5 (List.mem_of_getElem? (i := 137) rfl)) rfl
theorem ml_L_142 : Cond.methodLink RL 142 yX8_clashes ∈ lw_good := bq_tg (bq_tb5 (List.mem_of_getElem? (i := 138) rfl)) rfl
theorem im_X8_clashes : Cond.instanceMethod yX8_clashes ∈ lw_good := bq_tg (bq_tb5 (List.mem_of_getElem? (i := 139) rfl)) rfl
theorem sl_X8_clashes : Cond.selects RX8 yX8_clashes yX8_clashes ∈ lw_good := bq_tg (bq_tb5 (List.mem_of_getElem? (i := 140) rfl)) rfl
theorem cd_X8_clashes : Cond.code yX8_clashes cX8_clashes 4 (some .int) ∈ lw_good := bq_tg (bq_tb5 (List.mem_of_getElem? (i := 141) rfl)) rfl
theorem ml_X8_123 : Cond.methodLink RX8 123 yX8_clashOf ∈ lw_good := bq_tg (bq_tb5 (List.mem_of_getElem? (i := 142) rfl)) rfl
theorem im_X8_clashOf : Cond.instanceMethod yX8_clashOf ∈ lw_good := bq_tg (bq_tb5 (List.mem_of_getElem? (i := 144) rfl)) rfl
theorem cd_X8_clashOf : Cond.code yX8_clashOf cX8_clashOf 7 (some .int) ∈ lw_good := bq_tg (bq_tb5 (List.mem_of_getElem? (i := 145) rfl)) rfl
theorem ml_X8_117 : Cond.methodLink RX8 117 yX8_outBehind ∈ lw_good := bq_tg (bq_tb5 (List.mem_of_getElem? (i := 146) rfl)) rfl
theorem im_X8_outBehind : Cond.instanceMethod yX8_outBehind ∈ lw_good := bq_tg (bq_tb5 (List.mem_of_getElem? (i := 148) rfl)) rfl
theorem cd_X8_outBehind : Cond.code yX8_outBehind cX8_outBehind 4 (some .int) ∈ lw_good := bq_tg (bq_tb5 (List.mem_of_getElem? (i := 149) rfl)) rfl
theorem ml_X8_120 : Cond.methodLink RX8 120 yX8_before ∈ lw_good := bq_tg (bq_tb5 (List.mem_of_getElem? (i := 150) rfl)) rfl
theorem im_X8_before : Cond.instanceMethod yX8_before ∈ lw_good := bq_tg (bq_tb5 (List.mem_of_getElem? (i := 152) rfl)) rfl
theorem cd_X8_before : Cond.code yX8_before cX8_before 2 (some .int) ∈ lw_good := bq_tg (bq_tb5 (List.mem_of_getElem? (i := 153) rfl)) rfl
theorem ml_L_145 : Cond.methodLink RL 145 yX8_clash ∈ lw_good := bq_tg (bq_tb5 (List.mem_of_getElem? (i := 154) rfl)) rfl
theorem im_X8_clash : Cond.instanceMethod yX8_clash ∈ lw_good := bq_tg (bq_tb5 (List.mem_of_getElem? (i := 155) rfl)) rfl
theorem sl_X8_clash : Cond.selects RX8 yX8_clash yX8_clash ∈ lw_good := bq_tg (bq_tb5 (List.mem_of_getElem? (i := 156) rfl)) rfl
theorem cd_X8_clash : Cond.code yX8_clash cX8_clash 3 (some .int) ∈ lw_good := bq_tg (bq_tb5 (List.mem_of_getElem? (i := 157) rfl)) rfl
theorem ml_L_148 : Cond.methodLink RL 148 yX8_groups ∈ lw_good := bq_tg (bq_tb5 (List.mem_of_getElem? (i := 158) rfl)) rfl
theorem im_X8_groups : Cond.instanceMethod yX8_groups ∈ lw_good := bq_tg (bq_tb5 (List.mem_of_getElem? (i := 159) rfl)) rfl
theorem sl_X8_groups : Cond.selects RX8 yX8_groups yX8_groups ∈ lw_good := bq_tg (bq_tb5 (List.mem_of_getElem? (i := 160) rfl)) rfl
theorem cd_X8_groups : Cond.code yX8_groups cX8_groups 1 (some .int) ∈ lw_good := bq_tg (bq_tb5 (List.mem_of_getElem? (i := 161) rfl)) rfl
theorem ml_L_151 : Cond.methodLink RL 151 yX8_cut ∈ lw_good := bq_tg (bq_tb5 (List.mem_of_getElem? (i := 162) rfl)) rfl
theorem im_X8_cut : Cond.instanceMethod yX8_cut ∈ lw_good := bq_tg (bq_tb5 (List.mem_of_getElem? (i := 163) rfl)) rfl
theorem sl_X8_cut : Cond.selects RX8 yX8_cut yX8_cut ∈ lw_good := bq_tg (bq_tb5 (List.mem_of_getElem? (i := 164) rfl)) rfl
theorem cd_X8_cut : Cond.code yX8_cut cX8_cut 2 (some .int) ∈ lw_good := bq_tg (bq_tb5 (List.mem_of_getElem? (i := 165) rfl)) rfl
theorem ml_L_154 : Cond.methodLink RL 154 yX8_groupOf ∈ lw_good := bq_tg (bq_tb5 (List.mem_of_getElem? (i := 166) rfl)) rfl
theorem im_X8_groupOf : Cond.instanceMethod yX8_groupOf ∈ lw_good := bq_tg (bq_tb5 (List.mem_of_getElem? (i := 167) rfl)) rfl
theorem sl_X8_groupOf : Cond.selects RX8 yX8_groupOf yX8_groupOf ∈ lw_good := bq_tg (bq_tb5 (List.mem_of_getElem? (i := 168) rfl)) rfl
theorem cd_X8_groupOf : Cond.code yX8_groupOf cX8_groupOf 2 (some .int) ∈ lw_good := bq_tg (bq_tb5 (List.mem_of_getElem? (i := 169) rfl)) rfl
theorem ml_X8_139 : Cond.methodLink RX8 139 yX8_groupFor ∈ lw_good := bq_tg (bq_tb5 (List.mem_of_getElem? (i := 170) rfl)) rfl
theorem im_X8_groupFor : Cond.instanceMethod yX8_groupFor ∈ lw_good := bq_tg (bq_tb5 (List.mem_of_getElem? (i := 172) rfl)) rfl
theorem cd_X8_groupFor : Cond.code yX8_groupFor cX8_groupFor 4 (some .int) ∈ lw_good := bq_tg (bq_tb5 (List.mem_of_getElem? (i := 173) rfl)) rfl
theorem ml_L_157 : Cond.methodLink RL 157 yX8_valves ∈ lw_good := bq_tg (bq_tb5 (List.mem_of_getElem? (i := 174) rfl)) rfl
theorem im_X8_valves : Cond.instanceMethod yX8_valves ∈ lw_good := bq_tg (bq_tb5 (List.mem_of_getElem? (i := 175) rfl)) rfl
theorem sl_X8_valves : Cond.selects RX8 yX8_valves yX8_valves ∈ lw_good := bq_tg (bq_tb5 (List.mem_of_getElem? (i := 176) rfl)) rfl
theorem cd_X8_valves : Cond.code yX8_valves cX8_valves 2 (some .int) ∈ lw_good := bq_tg (bq_tb5 (List.mem_of_getElem? (i := 177) rfl)) rfl
theorem ml_X8_142 : Cond.methodLink RX8 142 yX8_lacks ∈ lw_good := bq_tg (bq_tb5 (List.mem_of_getElem? (i := 178) rfl)) rfl
theorem im_X8_lacks : Cond.instanceMethod yX8_lacks ∈ lw_good := bq_tg (bq_tb5 (List.mem_of_getElem? (i := 180) rfl)) rfl
theorem cd_X8_lacks : Cond.code yX8_lacks cX8_lacks 2 (some .boolean) ∈ lw_good := bq_tg (bq_tb5 (List.mem_of_getElem? (i := 181) rfl)) rfl
theorem ml_X8_145 : Cond.methodLink RX8 145 yX8_valvesOf ∈ lw_good := bq_tg (bq_tb5 (List.mem_of_getElem? (i := 182) rfl)) rfl
theorem im_X8_valvesOf : Cond.instanceMethod yX8_valvesOf ∈ lw_good := bq_tg (bq_tb5 (List.mem_of_getElem? (i := 184) rfl)) rfl
theorem cd_X8_valvesOf : Cond.code yX8_valvesOf cX8_valvesOf 4 (some .int) ∈ lw_good := bq_tg (bq_tb5 (List.mem_of_getElem? (i := 185) rfl)) rfl
theorem ml_L_160 : Cond.methodLink RL 160 yX8_setMethod ∈ lw_good := bq_tg (bq_tb5 (List.mem_of_getElem? (i := 186) rfl)) rfl
theorem im_X8_setMethod : Cond.instanceMethod yX8_setMethod ∈ lw_good := bq_tg (bq_tb5 (List.mem_of_getElem? (i := 187) rfl)) rfl
theorem sl_X8_setMethod : Cond.selects RX8 yX8_setMethod yX8_setMethod ∈ lw_good := bq_tg (bq_tb5 (List.mem_of_getElem? (i := 188) rfl)) rfl
theorem cd_X8_setMethod : Cond.code yX8_setMethod cX8_setMethod 3 (some .int) ∈ lw_good := bq_tg (bq_tb5 (List.mem_of_getElem? (i := 189) rfl)) rfl
theorem ml_L_163 : Cond.methodLink RL 163 yX8_setStroke ∈ lw_good := bq_tg (bq_tb5 (List.mem_of_getElem? (i := 190) rfl)) rfl
theorem im_X8_setStroke : Cond.instanceMethod yX8_setStroke ∈ lw_good := bq_tg (bq_tb5 (List.mem_of_getElem? (i := 191) rfl)) rfl
theorem sl_X8_setStroke : Cond.selects RX8 yX8_setStroke yX8_setStroke ∈ lw_good := bq_tg (bq_tb5 (List.mem_of_getElem? (i := 192) rfl)) rfl
theorem cd_X8_setStroke : Cond.code yX8_setStroke cX8_setStroke 4 (some .int) ∈ lw_good := bq_tg (bq_tb5 (List.mem_of_getElem? (i := 193) rfl)) rfl
theorem ml_L_168 : Cond.methodLink RL 168 yX8_setStart ∈ lw_good := bq_tg (bq_tb5 (List.mem_of_getElem? (i := 194) rfl)) rfl
theorem im_X8_setStart : Cond.instanceMethod yX8_setStart ∈ lw_good := bq_tg (bq_tb5 (List.mem_of_getElem? (i := 195) rfl)) rfl
theorem sl_X8_setStart : Cond.selects RX8 yX8_setStart yX8_setStart ∈ lw_good := bq_tg (bq_tb5 (List.mem_of_getElem? (i := 196) rfl)) rfl
theorem cd_X8_setStart : Cond.code yX8_setStart cX8_setStart 3 (some .boolean) ∈ lw_good := bq_tg (bq_tb5 (List.mem_of_getElem? (i := 197) rfl)) rfl
theorem ml_L_172 : Cond.methodLink RL 172 yX8_setFault ∈ lw_good := bq_tg (bq_tb5 (List.mem_of_getElem? (i := 198) rfl)) rfl
theorem im_X8_setFault : Cond.instanceMethod yX8_setFault ∈ lw_good := bq_tg (bq_tb5 (List.mem_of_getElem? (i := 199) rfl)) rfl
theorem sl_X8_setFault : Cond.selects RX8 yX8_setFault yX8_setFault ∈ lw_good := bq_tg (bq_tb5 (List.mem_of_getElem? (i := 200) rfl)) rfl
theorem cd_X8_setFault : Cond.code yX8_setFault cX8_setFault 5 (some .boolean) ∈ lw_good := bq_tg (bq_tb5 (List.mem_of_getElem? (i := 201) rfl)) rfl
theorem ml_L_176 : Cond.methodLink RL 176 yX8_rest ∈ lw_good := bq_tg (bq_tb5 (List.mem_of_getElem? (i := 202) rfl)) rfl
theorem im_X8_rest : Cond.instanceMethod yX8_rest ∈ lw_good := bq_tg (bq_tb5 (List.mem_of_getElem? (i := 203) rfl)) rfl
theorem sl_X8_rest : Cond.selects RX8 yX8_rest yX8_rest ∈ lw_good := bq_tg (bq_tb5 (List.mem_of_getElem? (i := 204) rfl)) rfl
theorem cd_X8_rest : Cond.code yX8_rest cX8_rest 2 (some .int) ∈ lw_good := bq_tg (bq_tb5 (List.mem_of_getElem? (i := 205) rfl)) rfl
theorem ml_L_179 : Cond.methodLink RL 179 yX8_ticks ∈ lw_good := bq_tg (bq_tb5 (List.mem_of_getElem? (i := 206) rfl)) rfl
theorem im_X8_ticks : Cond.instanceMethod yX8_ticks ∈ lw_good := bq_tg (bq_tb5 (List.mem_of_getElem? (i := 207) rfl)) rfl
theorem sl_X8_ticks : Cond.selects RX8 yX8_ticks yX8_ticks ∈ lw_good := bq_tg (bq_tb5 (List.mem_of_getElem? (i := 208) rfl)) rfl
theorem cd_X8_ticks : Cond.code yX8_ticks cX8_ticks 4 (some .int) ∈ lw_good := bq_tg (bq_tb5 (List.mem_of_getElem? (i := 209) rfl)) rfl
theorem ml_X8_171 : Cond.methodLink RX8 171 yX8_ticksOnce ∈ lw_good := bq_tg (bq_tb5 (List.mem_of_getElem? (i := 210) rfl)) rfl
theorem im_X8_ticksOnce : Cond.instanceMethod yX8_ticksOnce ∈ lw_good := bq_tg (bq_tb5 (List.mem_of_getElem? (i := 212) rfl)) rfl
theorem cd_X8_ticksOnce : Cond.code yX8_ticksOnce cX8_ticksOnce 8 none ∈ lw_good := bq_tg (bq_tb5 (List.mem_of_getElem? (i := 213) rfl)) rfl
theorem ml_X8_163 : Cond.methodLink RX8 163 yX8_decides ∈ lw_good := bq_tg (bq_tb5 (List.mem_of_getElem? (i := 214) rfl)) rfl
theorem im_X8_decides : Cond.instanceMethod yX8_decides ∈ lw_good := bq_tg (bq_tb5 (List.mem_of_getElem? (i := 216) rfl)) rfl
theorem cd_X8_decides : Cond.code yX8_decides cX8_decides 8 (some .int) ∈ lw_good := bq_tg (bq_tb5 (List.mem_of_getElem? (i := 217) rfl)) rfl
theorem ml_X8_159 : Cond.methodLink RX8 159 yX8_isComplete ∈ lw_good := bq_tg (bq_tb5 (List.mem_of_getElem? (i := 218) rfl)) rfl
theorem im_X8_isComplete : Cond.instanceMethod yX8_isComplete ∈ lw_good := bq_tg (bq_tb5 (List.mem_of_getElem? (i := 220) rfl)) rfl
theorem cd_X8_isComplete : Cond.code yX8_isComplete cX8_isComplete 6 (some .boolean) ∈ lw_good := bq_tg (bq_tb5 (List.mem_of_getElem? (i := 221) rfl)) rfl
theorem ml_X8_155 : Cond.methodLink RX8 155 yX8_senses ∈ lw_good := bq_tg (bq_tb5 (List.mem_of_getElem? (i := 222) rfl)) rfl
theorem im_X8_senses : Cond.instanceMethod yX8_senses ∈ lw_good := bq_tg (bq_tb5 (List.mem_of_getElem? (i := 224) rfl)) rfl
theorem cd_X8_senses : Cond.code yX8_senses cX8_senses 6 (some .boolean) ∈ lw_good := bq_tg (bq_tb5 (List.mem_of_getElem? (i := 225) rfl)) rfl
theorem ml_X8_167 : Cond.methodLink RX8 167 yX8_notesEvent ∈ lw_good := bq_tg (bq_tb5 (List.mem_of_getElem? (i := 226) rfl)) rfl
theorem im_X8_notesEvent : Cond.instanceMethod yX8_notesEvent ∈ lw_good := bq_tg (bq_tb5 (List.mem_of_getElem? (i := 228) rfl)) rfl
theorem cd_X8_notesEvent : Cond.code yX8_notesEvent cX8_notesEvent 7 none ∈ lw_good := bq_tg (bq_tb5 (List.mem_of_getElem? (i := 229) rfl)) rfl
theorem ml_L_183 : Cond.methodLink RL 183 yX8_time ∈ lw_good := bq_tg (bq_tb5 (List.mem_of_getElem? (i := 230) rfl)) rfl
theorem im_X8_time : Cond.instanceMethod yX8_time ∈ lw_good := bq_tg (bq_tb5 (List.mem_of_getElem? (i := 231) rfl)) rfl
theorem sl_X8_time : Cond.selects RX8 yX8_time yX8_time ∈ lw_good := bq_tg (bq_tb5 (List.mem_of_getElem? (i := 232) rfl)) rfl
theorem cd_X8_time : Cond.code yX8_time cX8_time 1 (some .int) ∈ lw_good := bq_tg (bq_tb5 (List.mem_of_getElem? (i := 233) rfl)) rfl
theorem ml_L_186 : Cond.methodLink RL 186 yX8_position ∈ lw_good := bq_tg (bq_tb5 (List.mem_of_getElem? (i := 234) rfl)) rfl
theorem im_X8_position : Cond.instanceMethod yX8_position ∈ lw_good := bq_tg (bq_tb5 (List.mem_of_getElem? (i := 235) rfl)) rfl
theorem sl_X8_position : Cond.selects RX8 yX8_position yX8_position ∈ lw_good := bq_tg (bq_tb5 (List.mem_of_getElem? (i := 236) rfl)) rfl
theorem cd_X8_position : Cond.code yX8_position cX8_position 2 (some .int) ∈ lw_good := bq_tg (bq_tb5 (List.mem_of_getElem? (i := 237) rfl)) rfl
theorem ml_X8_174 : Cond.methodLink RX8 174 yX8_ofCylinder ∈ lw_good := bq_tg (bq_tb5 (List.mem_of_getElem? (i := 238) rfl)) rfl
theorem im_X8_ofCylinder : Cond.instanceMethod yX8_ofCylinder ∈ lw_good := bq_tg (bq_tb6 (List.mem_of_getElem? (i := 0) rfl)) rfl
theorem cd_X8_ofCylinder : Cond.code yX8_ofCylinder cX8_ofCylinder 3 (some .int) ∈ lw_good := bq_tg (bq_tb6 (List.mem_of_getElem? (i := 1) rfl)) rfl
theorem ml_L_189 : Cond.methodLink RL 189 yX8_isOut ∈ lw_good := bq_tg (bq_tb6 (List.mem_of_getElem? (i := 2) rfl)) rfl
theorem im_X8_isOut : Cond.instanceMethod yX8_isOut ∈ lw_good := bq_tg (bq_tb6 (List.mem_of_getElem? (i := 3) rfl)) rfl
theorem sl_X8_isOut : Cond.selects RX8 yX8_isOut yX8_isOut ∈ lw_good := bq_tg (bq_tb6 (List.mem_of_getElem? (i := 4) rfl)) rfl
theorem cd_X8_isOut : Cond.code yX8_isOut cX8_isOut 2 (some .boolean) ∈ lw_good := bq_tg (bq_tb6 (List.mem_of_getElem? (i := 5) rfl)) rfl
theorem ml_L_192 : Cond.methodLink RL 192 yX8_sensor ∈ lw_good := bq_tg (bq_tb6 (List.mem_of_getElem? (i := 6) rfl)) rfl
theorem im_X8_sensor : Cond.instanceMethod yX8_sensor ∈ lw_good := bq_tg (bq_tb6 (List.mem_of_getElem? (i := 7) rfl)) rfl
theorem sl_X8_sensor : Cond.selects RX8 yX8_sensor yX8_sensor ∈ lw_good := bq_tg (bq_tb6 (List.mem_of_getElem? (i := 8) rfl)) rfl
theorem cd_X8_sensor : Cond.code yX8_sensor cX8_sensor 3 (some .boolean) ∈ lw_good := bq_tg (bq_tb6 (List.mem_of_getElem? (i := 9) rfl)) rfl
theorem ml_L_195 : Cond.methodLink RL 195 yX8_timer ∈ lw_good := bq_tg (bq_tb6 (List.mem_of_getElem? (i := 10) rfl)) rfl
theorem im_X8_timer : Cond.instanceMethod yX8_timer ∈ lw_good := bq_tg (bq_tb6 (List.mem_of_getElem? (i := 11) rfl)) rfl
theorem sl_X8_timer : Cond.selects RX8 yX8_timer yX8_timer ∈ lw_good := bq_tg (bq_tb6 (List.mem_of_getElem? (i := 12) rfl)) rfl
theorem cd_X8_timer : Cond.code yX8_timer cX8_timer 2 (some .int) ∈ lw_good := bq_tg (bq_tb6 (List.mem_of_getElem? (i := 13) rfl)) rfl
theorem ml_L_199 : Cond.methodLink RL 199 yX8_active ∈ lw_good := bq_tg (bq_tb6 (List.mem_of_getElem? (i := 14) rfl)) rfl
theorem im_X8_active : Cond.instanceMethod yX8_active ∈ lw_good := bq_tg (bq_tb6 (List.mem_of_getElem? (i := 15) rfl)) rfl
theorem sl_X8_active : Cond.selects RX8 yX8_active yX8_active ∈ lw_good := bq_tg (bq_tb6 (List.mem_of_getElem? (i := 16) rfl)) rfl
theorem cd_X8_active : Cond.code yX8_active cX8_active 1 (some .int) ∈ lw_good := bq_tg (bq_tb6 (List.mem_of_getElem? (i := 17) rfl)) rfl
theorem ml_L_202 : Cond.methodLink RL 202 yX8_commands ∈ lw_good := bq_tg (bq_tb6 (List.mem_of_getElem? (i := 18) rfl)) rfl
theorem im_X8_commands : Cond.instanceMethod yX8_commands ∈ lw_good := bq_tg (bq_tb6 (List.mem_of_getElem? (i := 19) rfl)) rfl
theorem sl_X8_commands : Cond.selects RX8 yX8_commands yX8_commands ∈ lw_good := bq_tg (bq_tb6 (List.mem_of_getElem? (i := 20) rfl)) rfl
theorem cd_X8_commands : Cond.code yX8_commands cX8_commands 2 (some .int) ∈ lw_good := bq_tg (bq_tb6 (List.mem_of_getElem? (i := 21) rfl)) rfl
theorem ml_L_206 : Cond.methodLink RL 206 yX8_events ∈ lw_good := bq_tg (bq_tb6 (List.mem_of_getElem? (i := 22) rfl)) rfl
theorem im_X8_events : Cond.instanceMethod yX8_events ∈ lw_good := bq_tg (bq_tb6 (List.mem_of_getElem? (i := 23) rfl)) rfl
theorem sl_X8_events : Cond.selects RX8 yX8_events yX8_events ∈ lw_good := bq_tg (bq_tb6 (List.mem_of_getElem? (i := 24) rfl)) rfl
theorem cd_X8_events : Cond.code yX8_events cX8_events 1 (some .int) ∈ lw_good := bq_tg (bq_tb6 (List.mem_of_getElem? (i := 25) rfl)) rfl
theorem ml_L_209 : Cond.methodLink RL 209 yX8_eventTime ∈ lw_good := bq_tg (bq_tb6 (List.mem_of_getElem? (i := 26) rfl)) rfl
theorem im_X8_eventTime : Cond.instanceMethod yX8_eventTime ∈ lw_good := bq_tg (bq_tb6 (List.mem_of_getElem? (i := 27) rfl)) rfl
theorem sl_X8_eventTime : Cond.selects RX8 yX8_eventTime yX8_eventTime ∈ lw_good := bq_tg (bq_tb6 (List.mem_of_getElem? (i := 28) rfl)) rfl
theorem cd_X8_eventTime : Cond.code yX8_eventTime cX8_eventTime 2 (some .int) ∈ lw_good := bq_tg (bq_tb6 (List.mem_of_getElem? (i := 29) rfl)) rfl
theorem ml_X8_177 : Cond.methodLink RX8 177 yX8_ofEvent ∈ lw_good := bq_tg (bq_tb6 (List.mem_of_getElem? (i := 30) rfl)) rfl
theorem im_X8_ofEvent : Cond.instanceMethod yX8_ofEvent ∈ lw_good := bq_tg (bq_tb6 (List.mem_of_getElem? (i := 32) rfl)) rfl
theorem cd_X8_ofEvent : Cond.code yX8_ofEvent cX8_ofEvent 3 (some .int) ∈ lw_good := bq_tg (bq_tb6 (List.mem_of_getElem? (i := 33) rfl)) rfl
theorem ml_L_212 : Cond.methodLink RL 212 yX8_eventMove ∈ lw_good := bq_tg (bq_tb6 (List.mem_of_getElem? (i := 34) rfl)) rfl
theorem im_X8_eventMove : Cond.instanceMethod yX8_eventMove ∈ lw_good := bq_tg (bq_tb6 (List.mem_of_getElem? (i := 35) rfl)) rfl
theorem sl_X8_eventMove : Cond.selects RX8 yX8_eventMove yX8_eventMove ∈ lw_good := bq_tg (bq_tb6 (List.mem_of_getElem? (i := 36) rfl)) rfl
theorem cd_X8_eventMove : Cond.code yX8_eventMove cX8_eventMove 2 (some .int) ∈ lw_good := bq_tg (bq_tb6 (List.mem_of_getElem? (i := 37) rfl)) rfl
theorem ml_L_216 : Cond.methodLink RL 216 yX8_rightEvents ∈ lw_good := bq_tg (bq_tb6 (List.mem_of_getElem? (i := 38) rfl)) rfl
theorem im_X8_rightEvents : Cond.instanceMethod yX8_rightEvents ∈ lw_good := bq_tg (bq_tb6 (List.mem_of_getElem? (i := 39) rfl)) rfl
theorem sl_X8_rightEvents : Cond.selects RX8 yX8_rightEvents yX8_rightEvents ∈ lw_good := bq_tg (bq_tb6 (List.mem_of_getElem? (i := 40) rfl)) rfl
theorem cd_X8_rightEvents : Cond.code yX8_rightEvents cX8_rightEvents 1 (some .int) ∈ lw_good := bq_tg (bq_tb6 (List.mem_of_getElem? (i := 41) rfl)) rfl
theorem ml_L_220 : Cond.methodLink RL 220 yX8_cycles ∈ lw_good := bq_tg (bq_tb6 (List.mem_of_getElem? (i := 42) rfl)) rfl
theorem im_X8_cycles : Cond.instanceMethod yX8_cycles ∈ lw_good := bq_tg (bq_tb6 (List.mem_of_getElem? (i := 43) rfl)) rfl
theorem sl_X8_cycles : Cond.selects RX8 yX8_cycles yX8_cycles ∈ lw_good := bq_tg (bq_tb6 (List.mem_of_getElem? (i := 44) rfl)) rfl
theorem cd_X8_cycles : Cond.code yX8_cycles cX8_cycles 1 (some .int) ∈ lw_good := bq_tg (bq_tb6 (List.mem_of_getElem? (i := 45) rfl)) rfl
theorem ml_L_224 : Cond.methodLink RL 224 yX8_quiet ∈ lw_good := bq_tg (bq_tb6 (List.mem_of_getElem? (i := 46) rfl)) rfl
theorem im_X8_quiet : Cond.instanceMethod yX8_quiet ∈ lw_good := bq_tg (bq_tb6 (List.mem_of_getElem? (i := 47) rfl)) rfl
theorem sl_X8_quiet : Cond.selects RX8 yX8_quiet yX8_quiet ∈ lw_good := bq_tg (bq_tb6 (List.mem_of_getElem? (i := 48) rfl)) rfl
theorem cd_X8_quiet : Cond.code yX8_quiet cX8_quiet 1 (some .int) ∈ lw_good := bq_tg (bq_tb6 (List.mem_of_getElem? (i := 49) rfl)) rfl
theorem ml_L_227 : Cond.methodLink RL 227 yX8_works ∈ lw_good := bq_tg (bq_tb6 (List.mem_of_getElem? (i := 50) rfl)) rfl
theorem im_X8_works : Cond.instanceMethod yX8_works ∈ lw_good := bq_tg (bq_tb6 (List.mem_of_getElem? (i := 51) rfl)) rfl
theorem sl_X8_works : Cond.selects RX8 yX8_works yX8_works ∈ lw_good := bq_tg (bq_tb6 (List.mem_of_getElem? (i := 52) rfl)) rfl
theorem cd_X8_works : Cond.code yX8_works cX8_works 2 (some .boolean) ∈ lw_good := bq_tg (bq_tb6 (List.mem_of_getElem? (i := 53) rfl)) rfl
theorem ml_X8_184 : Cond.methodLink RX8 184 yX8_cycleOf ∈ lw_good := bq_tg (bq_tb6 (List.mem_of_getElem? (i := 54) rfl)) rfl
theorem im_X8_cycleOf : Cond.instanceMethod yX8_cycleOf ∈ lw_good := bq_tg (bq_tb6 (List.mem_of_getElem? (i := 56) rfl)) rfl
theorem cd_X8_cycleOf : Cond.code yX8_cycleOf cX8_cycleOf 2 (some .int) ∈ lw_good := bq_tg (bq_tb6 (List.mem_of_getElem? (i := 57) rfl)) rfl
theorem ml_X8_180 : Cond.methodLink RX8 180 yX8_tries ∈ lw_good := bq_tg (bq_tb6 (List.mem_of_getElem? (i := 58) rfl)) rfl
theorem im_X8_tries : Cond.instanceMethod yX8_tries ∈ lw_good := bq_tg (bq_tb6 (List.mem_of_getElem? (i := 60) rfl)) rfl
theorem cd_X8_tries : Cond.code yX8_tries cX8_tries 7 none ∈ lw_good := bq_tg (bq_tb6 (List.mem_of_getElem? (i := 61) rfl)) rfl
theorem ml_L_230 : Cond.methodLink RL 230 yX8_cycleTime ∈ lw_good := bq_tg (bq_tb6 (List.mem_of_getElem? (i := 62) rfl)) rfl
theorem im_X8_cycleTime : Cond.instanceMethod yX8_cycleTime ∈ lw_good := bq_tg (bq_tb6 (List.mem_of_getElem? (i := 63) rfl)) rfl
theorem sl_X8_cycleTime : Cond.selects RX8 yX8_cycleTime yX8_cycleTime ∈ lw_good := bq_tg (bq_tb6 (List.mem_of_getElem? (i := 64) rfl)) rfl
theorem cd_X8_cycleTime : Cond.code yX8_cycleTime cX8_cycleTime 2 (some .int) ∈ lw_good := bq_tg (bq_tb6 (List.mem_of_getElem? (i := 65) rfl)) rfl
theorem ml_L_233 : Cond.methodLink RL 233 yX8_cheapest ∈ lw_good := bq_tg (bq_tb6 (List.mem_of_getElem? (i := 66) rfl)) rfl
theorem im_X8_cheapest : Cond.instanceMethod yX8_cheapest ∈ lw_good := bq_tg (bq_tb6 (List.mem_of_getElem? (i := 67) rfl)) rfl
theorem sl_X8_cheapest : Cond.selects RX8 yX8_cheapest yX8_cheapest ∈ lw_good := bq_tg (bq_tb6 (List.mem_of_getElem? (i := 68) rfl)) rfl
theorem cd_X8_cheapest : Cond.code yX8_cheapest cX8_cheapest 3 (some .int) ∈ lw_good := bq_tg (bq_tb6 (List.mem_of_getElem? (i := 69) rfl)) rfl
theorem ml_L_237 : Cond.methodLink RL 237 yX8_effect ∈ lw_good := bq_tg (bq_tb6 (List.mem_of_getElem? (i := 70) rfl)) rfl
theorem im_X8_effect : Cond.instanceMethod yX8_effect ∈ lw_good := bq_tg (bq_tb6 (List.mem_of_getElem? (i := 71) rfl)) rfl
theorem sl_X8_effect : Cond.selects RX8 yX8_effect yX8_effect ∈ lw_good := bq_tg (bq_tb6 (List.mem_of_getElem? (i := 72) rfl)) rfl
theorem cd_X8_effect : Cond.code yX8_effect cX8_effect 4 (some .int) ∈ lw_good := bq_tg (bq_tb6 (List.mem_of_getElem? (i := 73) rfl)) rfl
theorem ml_L_240 : Cond.methodLink RL 240 yX8_suspect ∈ lw_good := bq_tg (bq_tb6 (List.mem_of_getElem? (i := 74) rfl)) rfl
theorem im_X8_suspect : Cond.instanceMethod yX8_suspect ∈ lw_good := bq_tg (bq_tb6 (List.mem_of_getElem? (i := 75) rfl)) rfl
theorem sl_X8_suspect : Cond.selects RX8 yX8_suspect yX8_suspect ∈ lw_good := bq_tg (bq_tb6 (List.mem_of_getElem? (i := 76) rfl)) rfl
theorem cd_X8_suspect : Cond.code yX8_suspect cX8_suspect 4 (some .int) ∈ lw_good := bq_tg (bq_tb6 (List.mem_of_getElem? (i := 77) rfl)) rfl
theorem ml_X8_187 : Cond.methodLink RX8 187 yX8_explains ∈ lw_good := bq_tg (bq_tb6 (List.mem_of_getElem? (i := 78) rfl)) rfl
theorem im_X8_explains : Cond.instanceMethod yX8_explains ∈ lw_good := bq_tg (bq_tb6 (List.mem_of_getElem? (i := 80) rfl)) rfl
theorem cd_X8_explains : Cond.code yX8_explains cX8_explains 5 (some .boolean) ∈ lw_good := bq_tg (bq_tb6 (List.mem_of_getElem? (i := 81) rfl)) rfl
theorem ml_L_245 : Cond.methodLink RL 245 yX8_fingerprint ∈ lw_good := bq_tg (bq_tb6 (List.mem_of_getElem? (i := 82) rfl)) rfl
theorem im_X8_fingerprint : Cond.instanceMethod yX8_fingerprint ∈ lw_good := bq_tg (bq_tb6 (List.mem_of_getElem? (i := 83) rfl)) rfl
theorem sl_X8_fingerprint : Cond.selects RX8 yX8_fingerprint yX8_fingerprint ∈ lw_good := bq_tg (bq_tb6 (List.mem_of_getElem? (i := 84) rfl)) rfl
theorem cd_X8_fingerprint : Cond.code yX8_fingerprint cX8_fingerprint 4 (some .long) ∈ lw_good := bq_tg (bq_tb6 (List.mem_of_getElem? (i := 85) rfl)) rfl
theorem ct_X8_190 : Cond.constantLong RX8 190 589 ∈ lw_good := bq_tg (bq_tb6 (List.mem_of_getElem? (i := 86) rfl)) rfl
theorem ct_X8_192 : Cond.constantLong RX8 192 31 ∈ lw_good := bq_tg (bq_tb6 (List.mem_of_getElem? (i := 87) rfl)) rfl
theorem ac_long : Cond.arrayClass .long ∈ lw_good := bq_tg (bq_tb6 (List.mem_of_getElem? (i := 88) rfl)) rfl
def lw_nest : List Cond := [Cond.methodLinkNest RX7 9 yX5_init RX7, Cond.methodLinkNest RX7 12 yX2_init RX7, Cond.methodLinkNest RX3 11 yX0_init RX7, Cond.methodLinkNest RX3 20 yX1_init RX7, Cond.methodLinkNest RX3 27 yX4_init RX7, Cond.methodLinkNest RX7 33 yX6_init RX7, Cond.methodLinkNest RX2 74 yX7_holds RX7, Cond.methodLinkNest RX0 29 yX7_holds RX7, Cond.castable "java/lang/IllegalArgumentException" "java/lang/IllegalArgumentException", Cond.declares ⟨"java/lang/RuntimeException", "<init>", "()V"⟩, Cond.declares ⟨"java/lang/RuntimeException", "<init>", "(Ljava/lang/String;)V"⟩, Cond.declares ⟨"java/lang/Exception", "<init>", "()V"⟩, Cond.declares ⟨"java/lang/Exception", "<init>", "(Ljava/lang/String;)V"⟩, Cond.declares ⟨"java/lang/Throwable", "<init>", "()V"⟩, Cond.declares ⟨"java/lang/Throwable", "<init>", "(Ljava/lang/String;)V"⟩, Cond.castable "java/lang/IllegalStateException" "java/lang/IllegalStateException", Cond.castable "java/lang/IndexOutOfBoundsException" "java/lang/IndexOutOfBoundsException", Cond.methodLinkNest RX5 44 yX7_holds RX7, Cond.methodLinkNest RX3 141 yX7_holds RX7, Cond.methodLinkNest RX4 49 yX7_holds RX7]
theorem mn_X7_9 : Cond.methodLinkNest RX7 9 yX5_init RX7 ∈ lw_nest := List.mem_of_getElem? (i := 0) rfl
theorem mn_X7_12 : Cond.methodLinkNest RX7 12 yX2_init RX7 ∈ lw_nest := List.mem_of_getElem? (i := 1) rfl
theorem mn_X3_11 : Cond.methodLinkNest RX3 11 yX0_init RX7 ∈ lw_nest := List.mem_of_getElem? (i := 2) rfl
theorem mn_X3_20 : Cond.methodLinkNest RX3 20 yX1_init RX7 ∈ lw_nest := List.mem_of_getElem? (i := 3) rfl
theorem mn_X3_27 : Cond.methodLinkNest RX3 27 yX4_init RX7 ∈ lw_nest := List.mem_of_getElem? (i := 4) rfl
theorem mn_X7_33 : Cond.methodLinkNest RX7 33 yX6_init RX7 ∈ lw_nest := List.mem_of_getElem? (i := 5) rfl
theorem mn_X2_74 : Cond.methodLinkNest RX2 74 yX7_holds RX7 ∈ lw_nest := List.mem_of_getElem? (i := 6) rfl
theorem mn_X0_29 : Cond.methodLinkNest RX0 29 yX7_holds RX7 ∈ lw_nest := List.mem_of_getElem? (i := 7) rfl
theorem mc_IllegalArgumentException : Cond.castable "java/lang/IllegalArgumentException" "java/lang/IllegalArgumentException" ∈ lw_nest := List.mem_of_getElem? (i := 8) rfl
theorem md_535 : Cond.declares ⟨"java/lang/RuntimeException", "<init>", "()V"⟩ ∈ lw_nest := List.mem_of_getElem? (i := 9) rfl
theorem md_536 : Cond.declares ⟨"java/lang/RuntimeException", "<init>", "(Ljava/lang/String;)V"⟩ ∈ lw_nest := List.mem_of_getElem? (i := 10) rfl
theorem md_537 : Cond.declares ⟨"java/lang/Exception", "<init>", "()V"⟩ ∈ lw_nest := List.mem_of_getElem? (i := 11) rfl
theorem md_538 : Cond.declares ⟨"java/lang/Exception", "<init>", "(Ljava/lang/String;)V"⟩ ∈ lw_nest := List.mem_of_getElem? (i := 12) rfl
theorem md_539 : Cond.declares ⟨"java/lang/Throwable", "<init>", "()V"⟩ ∈ lw_nest := List.mem_of_getElem? (i := 13) rfl
theorem md_540 : Cond.declares ⟨"java/lang/Throwable", "<init>", "(Ljava/lang/String;)V"⟩ ∈ lw_nest := List.mem_of_getElem? (i := 14) rfl
theorem mc_IllegalStateException : Cond.castable "java/lang/IllegalStateException" "java/lang/IllegalStateException" ∈ lw_nest := List.mem_of_getElem? (i := 15) rfl
theorem mc_IndexOutOfBoundsException : Cond.castable "java/lang/IndexOutOfBoundsException" "java/lang/IndexOutOfBoundsException" ∈ lw_nest := List.mem_of_getElem? (i := 16) rfl
theorem mn_X5_44 : Cond.methodLinkNest RX5 44 yX7_holds RX7 ∈ lw_nest := List.mem_of_getElem? (i := 17) rfl
theorem mn_X3_141 : Cond.methodLinkNest RX3 141 yX7_holds RX7 ∈ lw_nest := List.mem_of_getElem? (i := 18) rfl
theorem mn_X4_49 : Cond.methodLinkNest RX4 49 yX7_holds RX7 ∈ lw_nest := List.mem_of_getElem? (i := 19) rfl
theorem lw_nest_in : ∀ w ∈ lw_nest, w ∈ lw_tbl := by
  intro w hw
  have h : lw_nest = [92, 149, 183, 216, 241, 329, 410, 522, 534, 535, 536, 537, 538, 539, 540, 602, 634, 683, 834, 846].filterMap (fun i => lw_tbl[i]?) := by decide +kernel
  rw [h] at hw
  obtain ⟨i, -, hi⟩ := List.mem_filterMap.mp hw
  exact List.mem_of_getElem? hi
theorem lw_nest_is : ∀ w ∈ lw_nest, (∃ (a : String) (i : Nat) (x : MethodName) (h : String), w = Cond.methodLinkNest a i x h) ∨ (∃ (a b : String), w = Cond.castable a b) ∨ (∃ x : MethodName, w = Cond.declares x) := by
  intro w hw
  simp only [lw_nest, List.mem_cons, List.not_mem_nil, or_false] at hw
  rcases hw with rfl | rfl | rfl | rfl | rfl | rfl | rfl | rfl | rfl | rfl | rfl | rfl | rfl | rfl | rfl | rfl | rfl | rfl | rfl | rfl <;> first | exact Or.inl ⟨_, _, _, _, rfl⟩ | exact Or.inr (Or.inl ⟨_, _, rfl⟩) | exact Or.inr (Or.inr ⟨_, rfl⟩)
theorem lw_nest_ot : ∀ w ∈ lw_nest, w.onTables = true := by
  intro w hw
  rcases lw_nest_is w hw with ⟨a, i, x, h, rfl⟩ | ⟨a, b, rfl⟩ | ⟨x, rfl⟩ <;> rfl
def lw_strs : List (String × Nat × String) := [(RX7, 48, "the code is not from 32 to 126"), (RX7, 58, "the text has 80 characters already"), (RX7, 260, "there is no such step"), (RX7, 252, "the cylinder is not from 0 to 5"), (RX7, 262, "there is no sequence"), (RX7, 122, "there is no such cut"), (RX7, 256, "the method is not from 0 to 2"), (RX7, 146, "the stroke is not from 1 to 20"), (RX7, 254, "the kind of the fault is not from 0 to 4"), (RX7, 168, "the number of ticks is not from 0 to 5000"), (RX7, 186, "the sensor is not 0 or 1"), (RX7, 258, "the number of the event is negative"), (RX7, 234, "the number of ticks is not from 0 to 2000"), (RX7, 240, "the number of the fault is negative")]
theorem sr_X7_48 : (RX7, 48, "the code is not from 32 to 126") ∈ lw_strs := List.mem_of_getElem? (i := 0) rfl
theorem sr_X7_58 : (RX7, 58, "the text has 80 characters already") ∈ lw_strs := List.mem_of_getElem? (i := 1) rfl
theorem sr_X7_260 : (RX7, 260, "there is no such step") ∈ lw_strs := List.mem_of_getElem? (i := 2) rfl
theorem sr_X7_252 : (RX7, 252, "the cylinder is not from 0 to 5") ∈ lw_strs := List.mem_of_getElem? (i := 3) rfl
theorem sr_X7_262 : (RX7, 262, "there is no sequence") ∈ lw_strs := List.mem_of_getElem? (i := 4) rfl
theorem sr_X7_122 : (RX7, 122, "there is no such cut") ∈ lw_strs := List.mem_of_getElem? (i := 5) rfl
theorem sr_X7_256 : (RX7, 256, "the method is not from 0 to 2") ∈ lw_strs := List.mem_of_getElem? (i := 6) rfl
theorem sr_X7_146 : (RX7, 146, "the stroke is not from 1 to 20") ∈ lw_strs := List.mem_of_getElem? (i := 7) rfl
theorem sr_X7_254 : (RX7, 254, "the kind of the fault is not from 0 to 4") ∈ lw_strs := List.mem_of_getElem? (i := 8) rfl
theorem sr_X7_168 : (RX7, 168, "the number of ticks is not from 0 to 5000") ∈ lw_strs := List.mem_of_getElem? (i := 9) rfl
theorem sr_X7_186 : (RX7, 186, "the sensor is not 0 or 1") ∈ lw_strs := List.mem_of_getElem? (i := 10) rfl
theorem sr_X7_258 : (RX7, 258, "the number of the event is negative") ∈ lw_strs := List.mem_of_getElem? (i := 11) rfl
theorem sr_X7_234 : (RX7, 234, "the number of ticks is not from 0 to 2000") ∈ lw_strs := List.mem_of_getElem? (i := 12) rfl
theorem sr_X7_240 : (RX7, 240, "the number of the fault is negative") ∈ lw_strs := List.mem_of_getElem? (i := 13) rfl
theorem lw_strs_in : ∀ q ∈ lw_strs, Cond.stringRef q.1 q.2.1 q.2.2 ∈ lw_tbl := by
  intro q hq
  have h : lw_strs.map (fun q => Cond.stringRef q.1 q.2.1 q.2.2) = [573, 609, 641, 659, 678, 713, 731, 757, 768, 780, 877, 904, 957, 965].filterMap (fun i => lw_tbl[i]?) := by decide +kernel
  have hm := List.mem_map_of_mem (f := fun q : String × Nat × String => Cond.stringRef q.1 q.2.1 q.2.2) hq
  rw [h] at hm
  obtain ⟨i, -, hi⟩ := List.mem_filterMap.mp hm
  exact List.mem_of_getElem? hi
def bq_up : List String := ["java/lang/RuntimeException", "java/lang/Exception"]
theorem bq_upf : ∀ n ∈ bq_up, Bundle.fit n = true := by decide +kernel
theorem xa_X7_124 : ∀ w ∈ (vx_atS RX7 124 "java/lang/IndexOutOfBoundsException" bq_up).filter goodWord, w ∈ lw_good := by
  intro w hw
  have h : ∀ w ∈ (vx_atS RX7 124 "java/lang/IndexOutOfBoundsException" bq_up).filter goodWord, w ∈ lw_tbl := by decide +kernel
  exact List.mem_filter.mpr ⟨h w hw, (List.mem_filter.mp hw).2⟩
theorem xb_X7_124 : ∀ w ∈ (vx_atS RX7 124 "java/lang/IndexOutOfBoundsException" bq_up).filter (fun w => !goodWord w), w ∈ lw_nest := by decide +kernel
theorem xg_X7_120_124 : ∀ w ∈ Cond.classLink RX7 120 "java/lang/IndexOutOfBoundsException" :: Cond.initialized "java/lang/IndexOutOfBoundsException" :: vx_atS RX7 124 "java/lang/IndexOutOfBoundsException" bq_up, vx_ot w = true := by decide +kernel
theorem xa_X7_50 : ∀ w ∈ (vx_atS RX7 50 "java/lang/IllegalArgumentException" bq_up).filter goodWord, w ∈ lw_good := by
  intro w hw
  have h : ∀ w ∈ (vx_atS RX7 50 "java/lang/IllegalArgumentException" bq_up).filter goodWord, w ∈ lw_tbl := by decide +kernel
  exact List.mem_filter.mpr ⟨h w hw, (List.mem_filter.mp hw).2⟩
theorem xb_X7_50 : ∀ w ∈ (vx_atS RX7 50 "java/lang/IllegalArgumentException" bq_up).filter (fun w => !goodWord w), w ∈ lw_nest := by decide +kernel
theorem xg_X7_46_50 : ∀ w ∈ Cond.classLink RX7 46 "java/lang/IllegalArgumentException" :: Cond.initialized "java/lang/IllegalArgumentException" :: vx_atS RX7 50 "java/lang/IllegalArgumentException" bq_up, vx_ot w = true := by decide +kernel
theorem xa_X7_60 : ∀ w ∈ (vx_atS RX7 60 "java/lang/IllegalStateException" bq_up).filter goodWord, w ∈ lw_good := by
  intro w hw
  have h : ∀ w ∈ (vx_atS RX7 60 "java/lang/IllegalStateException" bq_up).filter goodWord, w ∈ lw_tbl := by decide +kernel
  exact List.mem_filter.mpr ⟨h w hw, (List.mem_filter.mp hw).2⟩
theorem xb_X7_60 : ∀ w ∈ (vx_atS RX7 60 "java/lang/IllegalStateException" bq_up).filter (fun w => !goodWord w), w ∈ lw_nest := by decide +kernel
theorem xg_X7_56_60 : ∀ w ∈ Cond.classLink RX7 56 "java/lang/IllegalStateException" :: Cond.initialized "java/lang/IllegalStateException" :: vx_atS RX7 60 "java/lang/IllegalStateException" bq_up, vx_ot w = true := by decide +kernel
theorem us_X0 : ∀ w ∈ u_ws RX0 TX0 6, w ∈ lw_good := bq_mgs [201, 203, 205, 207, 209, 211] (by decide +kernel) (by decide +kernel)
theorem us_X1 : ∀ w ∈ u_ws RX1 TX1 5, w ∈ lw_good := bq_mgs [228, 230, 232, 234, 236] (by decide +kernel) (by decide +kernel)
theorem us_X2 : ∀ w ∈ u_ws RX2 TX2 6, w ∈ lw_good := bq_mgs [162, 164, 166, 168, 170, 172] (by decide +kernel) (by decide +kernel)
theorem us_X3 : ∀ w ∈ u_ws RX3 TX3 13, w ∈ lw_good := bq_mgs [300, 302, 304, 306, 308, 310, 312, 314, 316, 318, 320, 322, 324] (by decide +kernel) (by decide +kernel)
theorem us_X4 : ∀ w ∈ u_ws RX4 TX4 6, w ∈ lw_good := bq_mgs [254, 256, 258, 260, 262, 264] (by decide +kernel) (by decide +kernel)
theorem us_X5 : ∀ w ∈ u_ws RX5 TX5 8, w ∈ lw_good := bq_mgs [129, 131, 133, 135, 137, 139, 141, 143] (by decide +kernel) (by decide +kernel)
theorem us_X6 : ∀ w ∈ u_ws RX6 TX6 4, w ∈ lw_good := bq_mgs [337, 339, 341, 343] (by decide +kernel) (by decide +kernel)
theorem us_X7 : ∀ w ∈ u_ws RX7 TX7 6, w ∈ lw_good := bq_mgs [352, 354, 356, 358, 360, 362] (by decide +kernel) (by decide +kernel)
theorem us_X8 : ∀ w ∈ u_ws RX8 TX8 20, w ∈ lw_good := bq_mgs [1025, 1027, 1029, 1031, 1033, 1035, 1037, 1039, 1041, 1043, 1045, 1047, 1049, 1051, 1053, 1055, 1057, 1059, 1061, 1063] (by decide +kernel) (by decide +kernel)
