/-! FACTS OF METHODS AND LINKS: by program (wip/whole/gen_all.py) -/
theorem mc_0 : mCode 0 = cX0_init := rfl
theorem mo_0 : mOwn 0 = 0 := rfl
theorem ma_0 : mArg 0 = 0 := rfl
theorem ms_0 : mSta 0 = false := rfl
theorem mi_0 : true = decide ((mName 0).name = "<init>") := by decide +kernel
theorem mt_0 : mRet 0 = none := rfl
theorem mr_0 : bR2 0 = bRV := rfl
theorem mq_0 : mIni 0 = true := by decide +kernel
theorem mn_0 : (mName 0).name = "<init>" := rfl
theorem mc_1 : mCode 1 = cX1_init := rfl
theorem mo_1 : mOwn 1 = 1 := rfl
theorem ma_1 : mArg 1 = 0 := rfl
theorem ms_1 : mSta 1 = false := rfl
theorem mi_1 : true = decide ((mName 1).name = "<init>") := by decide +kernel
theorem mt_1 : mRet 1 = none := rfl
theorem mr_1 : bR2 1 = bRV := rfl
theorem mq_1 : mIni 1 = true := by decide +kernel
theorem mn_1 : (mName 1).name = "<init>" := rfl
theorem mc_2 : mCode 2 = cX1_clear := rfl
theorem mo_2 : mOwn 2 = 1 := rfl
theorem ma_2 : mArg 2 = 0 := rfl
theorem ms_2 : mSta 2 = false := rfl
theorem mi_2 : false = decide ((mName 2).name = "<init>") := by decide +kernel
theorem mt_2 : mRet 2 = none := rfl
theorem mr_2 : bR2 2 = bRV := rfl
theorem mq_2 : mIni 2 = false := by decide +kernel
theorem mc_3 : mCode 3 = cX1_emit := rfl
theorem mo_3 : mOwn 3 = 1 := rfl
theorem ma_3 : mArg 3 = 1 := rfl
theorem ms_3 : mSta 3 = false := rfl
theorem mi_3 : false = decide ((mName 3).name = "<init>") := by decide +kernel
theorem mt_3 : mRet 3 = none := rfl
theorem mr_3 : bR2 3 = bRV := rfl
theorem mq_3 : mIni 3 = false := by decide +kernel
theorem mc_4 : mCode 4 = cX1_addRule := rfl
theorem mo_4 : mOwn 4 = 1 := rfl
theorem ma_4 : mArg 4 = 3 := rfl
theorem ms_4 : mSta 4 = false := rfl
theorem mi_4 : false = decide ((mName 4).name = "<init>") := by decide +kernel
theorem mt_4 : mRet 4 = none := rfl
theorem mr_4 : bR2 4 = bRV := rfl
theorem mq_4 : mIni 4 = false := by decide +kernel
theorem mc_5 : mCode 5 = cX1_addStep := rfl
theorem mo_5 : mOwn 5 = 1 := rfl
theorem ma_5 : mArg 5 = 2 := rfl
theorem ms_5 : mSta 5 = false := rfl
theorem mi_5 : false = decide ((mName 5).name = "<init>") := by decide +kernel
theorem mt_5 : mRet 5 = none := rfl
theorem mr_5 : bR2 5 = bRV := rfl
theorem mq_5 : mIni 5 = false := by decide +kernel
theorem mc_6 : mCode 6 = cX1_saysMine := rfl
theorem mo_6 : mOwn 6 = 1 := rfl
theorem ma_6 : mArg 6 = 2 := rfl
theorem ms_6 : mSta 6 = false := rfl
theorem mi_6 : false = decide ((mName 6).name = "<init>") := by decide +kernel
theorem mt_6 : mRet 6 = some .boolean := rfl
theorem mr_6 : bR2 6 = bRI := rfl
theorem mq_6 : mIni 6 = false := by decide +kernel
theorem mc_7 : mCode 7 = cX1_part := rfl
theorem mo_7 : mOwn 7 = 1 := rfl
theorem ma_7 : mArg 7 = 3 := rfl
theorem ms_7 : mSta 7 = false := rfl
theorem mi_7 : false = decide ((mName 7).name = "<init>") := by decide +kernel
theorem mt_7 : mRet 7 = some .int := rfl
theorem mr_7 : bR2 7 = bRI := rfl
theorem mq_7 : mIni 7 = false := by decide +kernel
theorem mc_8 : mCode 8 = cX1_bySteps := rfl
theorem mo_8 : mOwn 8 = 1 := rfl
theorem ma_8 : mArg 8 = 1 := rfl
theorem ms_8 : mSta 8 = false := rfl
theorem mi_8 : false = decide ((mName 8).name = "<init>") := by decide +kernel
theorem mt_8 : mRet 8 = some .long := rfl
theorem mr_8 : bR2 8 = bRJ := rfl
theorem mq_8 : mIni 8 = false := by decide +kernel
theorem mc_9 : mCode 9 = cX1_run := rfl
theorem mo_9 : mOwn 9 = 1 := rfl
theorem ma_9 : mArg 9 = 4 := rfl
theorem ms_9 : mSta 9 = false := rfl
theorem mi_9 : false = decide ((mName 9).name = "<init>") := by decide +kernel
theorem mt_9 : mRet 9 = some .int := rfl
theorem mr_9 : bR2 9 = bRI := rfl
theorem mq_9 : mIni 9 = false := by decide +kernel
theorem mc_10 : mCode 10 = cX1_join := rfl
theorem mo_10 : mOwn 10 = 1 := rfl
theorem ma_10 : mArg 10 = 3 := rfl
theorem ms_10 : mSta 10 = true := rfl
theorem mi_10 : false = decide ((mName 10).name = "<init>") := by decide +kernel
theorem mt_10 : mRet 10 = some .int := rfl
theorem mr_10 : bR2 10 = bRI := rfl
theorem mq_10 : mIni 10 = false := by decide +kernel
theorem mc_11 : mCode 11 = cX2_init := rfl
theorem mo_11 : mOwn 11 = 2 := rfl
theorem ma_11 : mArg 11 = 0 := rfl
theorem ms_11 : mSta 11 = false := rfl
theorem mi_11 : true = decide ((mName 11).name = "<init>") := by decide +kernel
theorem mt_11 : mRet 11 = none := rfl
theorem mr_11 : bR2 11 = bRV := rfl
theorem mq_11 : mIni 11 = true := by decide +kernel
theorem mn_11 : (mName 11).name = "<init>" := rfl
theorem mc_12 : mCode 12 = cX2_saysSo := rfl
theorem mo_12 : mOwn 12 = 2 := rfl
theorem ma_12 : mArg 12 = 2 := rfl
theorem ms_12 : mSta 12 = false := rfl
theorem mi_12 : false = decide ((mName 12).name = "<init>") := by decide +kernel
theorem mt_12 : mRet 12 = some .boolean := rfl
theorem mr_12 : bR2 12 = bRI := rfl
theorem mq_12 : mIni 12 = false := by decide +kernel
theorem mc_13 : mCode 13 = cX2_hear := rfl
theorem mo_13 : mOwn 13 = 2 := rfl
theorem ma_13 : mArg 13 = 3 := rfl
theorem ms_13 : mSta 13 = false := rfl
theorem mi_13 : false = decide ((mName 13).name = "<init>") := by decide +kernel
theorem mt_13 : mRet 13 = none := rfl
theorem mr_13 : bR2 13 = bRV := rfl
theorem mq_13 : mIni 13 = false := by decide +kernel
theorem mc_14 : mCode 14 = cX2_giveWay := rfl
theorem mo_14 : mOwn 14 = 2 := rfl
theorem ma_14 : mArg 14 = 3 := rfl
theorem ms_14 : mSta 14 = false := rfl
theorem mi_14 : false = decide ((mName 14).name = "<init>") := by decide +kernel
theorem mt_14 : mRet 14 = none := rfl
theorem mr_14 : bR2 14 = bRV := rfl
theorem mq_14 : mIni 14 = false := by decide +kernel
theorem mc_15 : mCode 15 = cX2_deciding := rfl
theorem mo_15 : mOwn 15 = 2 := rfl
theorem ma_15 : mArg 15 = 3 := rfl
theorem ms_15 : mSta 15 = false := rfl
theorem mi_15 : false = decide ((mName 15).name = "<init>") := by decide +kernel
theorem mt_15 : mRet 15 = some .int := rfl
theorem mr_15 : bR2 15 = bRI := rfl
theorem mq_15 : mIni 15 = false := by decide +kernel
theorem mc_16 : mCode 16 = cX2_under := rfl
theorem mo_16 : mOwn 16 = 2 := rfl
theorem ma_16 : mArg 16 = 1 := rfl
theorem ms_16 : mSta 16 = false := rfl
theorem mi_16 : false = decide ((mName 16).name = "<init>") := by decide +kernel
theorem mt_16 : mRet 16 = none := rfl
theorem mr_16 : bR2 16 = bRV := rfl
theorem mq_16 : mIni 16 = false := by decide +kernel
theorem mc_17 : mCode 17 = cX2_meet := rfl
theorem mo_17 : mOwn 17 = 2 := rfl
theorem ma_17 : mArg 17 = 3 := rfl
theorem ms_17 : mSta 17 = false := rfl
theorem mi_17 : false = decide ((mName 17).name = "<init>") := by decide +kernel
theorem mt_17 : mRet 17 = none := rfl
theorem mr_17 : bR2 17 = bRV := rfl
theorem mq_17 : mIni 17 = false := by decide +kernel
theorem mc_18 : mCode 18 = cX2_seen := rfl
theorem mo_18 : mOwn 18 = 2 := rfl
theorem ma_18 : mArg 18 = 2 := rfl
theorem ms_18 : mSta 18 = false := rfl
theorem mi_18 : false = decide ((mName 18).name = "<init>") := by decide +kernel
theorem mt_18 : mRet 18 = some .int := rfl
theorem mr_18 : bR2 18 = bRI := rfl
theorem mq_18 : mIni 18 = false := by decide +kernel
theorem mc_19 : mCode 19 = cX2_freed := rfl
theorem mo_19 : mOwn 19 = 2 := rfl
theorem ma_19 : mArg 19 = 2 := rfl
theorem ms_19 : mSta 19 = false := rfl
theorem mi_19 : false = decide ((mName 19).name = "<init>") := by decide +kernel
theorem mt_19 : mRet 19 = some .boolean := rfl
theorem mr_19 : bR2 19 = bRI := rfl
theorem mq_19 : mIni 19 = false := by decide +kernel
theorem mc_20 : mCode 20 = cX2_settleAll := rfl
theorem mo_20 : mOwn 20 = 2 := rfl
theorem ma_20 : mArg 20 = 1 := rfl
theorem ms_20 : mSta 20 = false := rfl
theorem mi_20 : false = decide ((mName 20).name = "<init>") := by decide +kernel
theorem mt_20 : mRet 20 = some .long := rfl
theorem mr_20 : bR2 20 = bRJ := rfl
theorem mq_20 : mIni 20 = false := by decide +kernel
theorem mc_21 : mCode 21 = cX2_settle := rfl
theorem mo_21 : mOwn 21 = 2 := rfl
theorem ma_21 : mArg 21 = 1 := rfl
theorem ms_21 : mSta 21 = false := rfl
theorem mi_21 : false = decide ((mName 21).name = "<init>") := by decide +kernel
theorem mt_21 : mRet 21 = some .long := rfl
theorem mr_21 : bR2 21 = bRJ := rfl
theorem mq_21 : mIni 21 = false := by decide +kernel
theorem mc_22 : mCode 22 = cX2_ownAhead := rfl
theorem mo_22 : mOwn 22 = 2 := rfl
theorem ma_22 : mArg 22 = 2 := rfl
theorem ms_22 : mSta 22 = false := rfl
theorem mi_22 : false = decide ((mName 22).name = "<init>") := by decide +kernel
theorem mt_22 : mRet 22 = some .long := rfl
theorem mr_22 : bR2 22 = bRJ := rfl
theorem mq_22 : mIni 22 = false := by decide +kernel
theorem mc_23 : mCode 23 = cX2_atSource := rfl
theorem mo_23 : mOwn 23 = 2 := rfl
theorem ma_23 : mArg 23 = 2 := rfl
theorem ms_23 : mSta 23 = false := rfl
theorem mi_23 : false = decide ((mName 23).name = "<init>") := by decide +kernel
theorem mt_23 : mRet 23 = some .int := rfl
theorem mr_23 : bR2 23 = bRI := rfl
theorem mq_23 : mIni 23 = false := by decide +kernel
theorem mc_24 : mCode 24 = cX2_takenOf := rfl
theorem mo_24 : mOwn 24 = 2 := rfl
theorem ma_24 : mArg 24 = 1 := rfl
theorem ms_24 : mSta 24 = false := rfl
theorem mi_24 : false = decide ((mName 24).name = "<init>") := by decide +kernel
theorem mt_24 : mRet 24 = some .long := rfl
theorem mr_24 : bR2 24 = bRJ := rfl
theorem mq_24 : mIni 24 = false := by decide +kernel
theorem mc_25 : mCode 25 = cX2_chooseAnswer := rfl
theorem mo_25 : mOwn 25 = 2 := rfl
theorem ma_25 : mArg 25 = 1 := rfl
theorem ms_25 : mSta 25 = false := rfl
theorem mi_25 : false = decide ((mName 25).name = "<init>") := by decide +kernel
theorem mt_25 : mRet 25 = none := rfl
theorem mr_25 : bR2 25 = bRV := rfl
theorem mq_25 : mIni 25 = false := by decide +kernel
theorem mc_26 : mCode 26 = cX2_takeAnswer := rfl
theorem mo_26 : mOwn 26 = 2 := rfl
theorem ma_26 : mArg 26 = 1 := rfl
theorem ms_26 : mSta 26 = false := rfl
theorem mi_26 : false = decide ((mName 26).name = "<init>") := by decide +kernel
theorem mt_26 : mRet 26 = none := rfl
theorem mr_26 : bR2 26 = bRV := rfl
theorem mq_26 : mIni 26 = false := by decide +kernel
theorem mc_27 : mCode 27 = cX2_takers := rfl
theorem mo_27 : mOwn 27 = 2 := rfl
theorem ma_27 : mArg 27 = 0 := rfl
theorem ms_27 : mSta 27 = false := rfl
theorem mi_27 : false = decide ((mName 27).name = "<init>") := by decide +kernel
theorem mt_27 : mRet 27 = some .int := rfl
theorem mr_27 : bR2 27 = bRI := rfl
theorem mq_27 : mIni 27 = false := by decide +kernel
theorem mc_28 : mCode 28 = cX2_share := rfl
theorem mo_28 : mOwn 28 = 2 := rfl
theorem ma_28 : mArg 28 = 2 := rfl
theorem ms_28 : mSta 28 = false := rfl
theorem mi_28 : false = decide ((mName 28).name = "<init>") := by decide +kernel
theorem mt_28 : mRet 28 = some .int := rfl
theorem mr_28 : bR2 28 = bRI := rfl
theorem mq_28 : mIni 28 = false := by decide +kernel
theorem mc_29 : mCode 29 = cX3_init := rfl
theorem mo_29 : mOwn 29 = 3 := rfl
theorem ma_29 : mArg 29 = 0 := rfl
theorem ms_29 : mSta 29 = false := rfl
theorem mi_29 : true = decide ((mName 29).name = "<init>") := by decide +kernel
theorem mt_29 : mRet 29 = none := rfl
theorem mr_29 : bR2 29 = bRV := rfl
theorem mq_29 : mIni 29 = true := by decide +kernel
theorem mn_29 : (mName 29).name = "<init>" := rfl
theorem mc_30 : mCode 30 = cX3_clear := rfl
theorem mo_30 : mOwn 30 = 3 := rfl
theorem ma_30 : mArg 30 = 0 := rfl
theorem ms_30 : mSta 30 = false := rfl
theorem mi_30 : false = decide ((mName 30).name = "<init>") := by decide +kernel
theorem mt_30 : mRet 30 = none := rfl
theorem mr_30 : bR2 30 = bRV := rfl
theorem mq_30 : mIni 30 = false := by decide +kernel
theorem mc_31 : mCode 31 = cX3_copyTerms := rfl
theorem mo_31 : mOwn 31 = 3 := rfl
theorem ma_31 : mArg 31 = 1 := rfl
theorem ms_31 : mSta 31 = false := rfl
theorem mi_31 : false = decide ((mName 31).name = "<init>") := by decide +kernel
theorem mt_31 : mRet 31 = none := rfl
theorem mr_31 : bR2 31 = bRV := rfl
theorem mq_31 : mIni 31 = false := by decide +kernel
theorem mc_32 : mCode 32 = cX3_addTest := rfl
theorem mo_32 : mOwn 32 = 3 := rfl
theorem ma_32 : mArg 32 = 1 := rfl
theorem ms_32 : mSta 32 = false := rfl
theorem mi_32 : false = decide ((mName 32).name = "<init>") := by decide +kernel
theorem mt_32 : mRet 32 = none := rfl
theorem mr_32 : bR2 32 = bRV := rfl
theorem mq_32 : mIni 32 = false := by decide +kernel
theorem mc_33 : mCode 33 = cX3_tell := rfl
theorem mo_33 : mOwn 33 = 3 := rfl
theorem ma_33 : mArg 33 = 2 := rfl
theorem ms_33 : mSta 33 = false := rfl
theorem mi_33 : false = decide ((mName 33).name = "<init>") := by decide +kernel
theorem mt_33 : mRet 33 = none := rfl
theorem mr_33 : bR2 33 = bRV := rfl
theorem mq_33 : mIni 33 = false := by decide +kernel
theorem mc_34 : mCode 34 = cX3_limit := rfl
theorem mo_34 : mOwn 34 = 3 := rfl
theorem ma_34 : mArg 34 = 1 := rfl
theorem ms_34 : mSta 34 = false := rfl
theorem mi_34 : false = decide ((mName 34).name = "<init>") := by decide +kernel
theorem mt_34 : mRet 34 = some .int := rfl
theorem mr_34 : bR2 34 = bRI := rfl
theorem mq_34 : mIni 34 = false := by decide +kernel
theorem mc_35 : mCode 35 = cX4_init := rfl
theorem mo_35 : mOwn 35 = 4 := rfl
theorem ma_35 : mArg 35 = 0 := rfl
theorem ms_35 : mSta 35 = false := rfl
theorem mi_35 : true = decide ((mName 35).name = "<init>") := by decide +kernel
theorem mt_35 : mRet 35 = none := rfl
theorem mr_35 : bR2 35 = bRV := rfl
theorem mq_35 : mIni 35 = true := by decide +kernel
theorem mn_35 : (mName 35).name = "<init>" := rfl
theorem mc_36 : mCode 36 = cX4_price := rfl
theorem mo_36 : mOwn 36 = 4 := rfl
theorem ma_36 : mArg 36 = 1 := rfl
theorem ms_36 : mSta 36 = false := rfl
theorem mi_36 : false = decide ((mName 36).name = "<init>") := by decide +kernel
theorem mt_36 : mRet 36 = some .long := rfl
theorem mr_36 : bR2 36 = bRJ := rfl
theorem mq_36 : mIni 36 = false := by decide +kernel
theorem mc_37 : mCode 37 = cX5_init := rfl
theorem mo_37 : mOwn 37 = 5 := rfl
theorem ma_37 : mArg 37 = 0 := rfl
theorem ms_37 : mSta 37 = false := rfl
theorem mi_37 : true = decide ((mName 37).name = "<init>") := by decide +kernel
theorem mt_37 : mRet 37 = none := rfl
theorem mr_37 : bR2 37 = bRV := rfl
theorem mq_37 : mIni 37 = true := by decide +kernel
theorem mn_37 : (mName 37).name = "<init>" := rfl
theorem mc_38 : mCode 38 = cX5_forget := rfl
theorem mo_38 : mOwn 38 = 5 := rfl
theorem ma_38 : mArg 38 = 0 := rfl
theorem ms_38 : mSta 38 = false := rfl
theorem mi_38 : false = decide ((mName 38).name = "<init>") := by decide +kernel
theorem mt_38 : mRet 38 = none := rfl
theorem mr_38 : bR2 38 = bRV := rfl
theorem mq_38 : mIni 38 = false := by decide +kernel
theorem mc_39 : mCode 39 = cX5_readLaw := rfl
theorem mo_39 : mOwn 39 = 5 := rfl
theorem ma_39 : mArg 39 = 3 := rfl
theorem ms_39 : mSta 39 = false := rfl
theorem mi_39 : false = decide ((mName 39).name = "<init>") := by decide +kernel
theorem mt_39 : mRet 39 = some .int := rfl
theorem mr_39 : bR2 39 = bRI := rfl
theorem mq_39 : mIni 39 = false := by decide +kernel
theorem mc_40 : mCode 40 = cX5_readPact := rfl
theorem mo_40 : mOwn 40 = 5 := rfl
theorem ma_40 : mArg 40 = 3 := rfl
theorem ms_40 : mSta 40 = false := rfl
theorem mi_40 : false = decide ((mName 40).name = "<init>") := by decide +kernel
theorem mt_40 : mRet 40 = some .int := rfl
theorem mr_40 : bR2 40 = bRI := rfl
theorem mq_40 : mIni 40 = false := by decide +kernel
theorem mc_41 : mCode 41 = cX5_lawLine := rfl
theorem mo_41 : mOwn 41 = 5 := rfl
theorem ma_41 : mArg 41 = 1 := rfl
theorem ms_41 : mSta 41 = false := rfl
theorem mi_41 : false = decide ((mName 41).name = "<init>") := by decide +kernel
theorem mt_41 : mRet 41 = some .boolean := rfl
theorem mr_41 : bR2 41 = bRI := rfl
theorem mq_41 : mIni 41 = false := by decide +kernel
theorem mc_42 : mCode 42 = cX5_mineLine := rfl
theorem mo_42 : mOwn 42 = 5 := rfl
theorem ma_42 : mArg 42 = 0 := rfl
theorem ms_42 : mSta 42 = false := rfl
theorem mi_42 : false = decide ((mName 42).name = "<init>") := by decide +kernel
theorem mt_42 : mRet 42 = some .boolean := rfl
theorem mr_42 : bR2 42 = bRI := rfl
theorem mq_42 : mIni 42 = false := by decide +kernel
theorem mc_43 : mCode 43 = cX5_takeLine := rfl
theorem mo_43 : mOwn 43 = 5 := rfl
theorem ma_43 : mArg 43 = 0 := rfl
theorem ms_43 : mSta 43 = false := rfl
theorem mi_43 : false = decide ((mName 43).name = "<init>") := by decide +kernel
theorem mt_43 : mRet 43 = some .boolean := rfl
theorem mr_43 : bR2 43 = bRI := rfl
theorem mq_43 : mIni 43 = false := by decide +kernel
theorem mc_44 : mCode 44 = cX5_freeLine := rfl
theorem mo_44 : mOwn 44 = 5 := rfl
theorem ma_44 : mArg 44 = 0 := rfl
theorem ms_44 : mSta 44 = false := rfl
theorem mi_44 : false = decide ((mName 44).name = "<init>") := by decide +kernel
theorem mt_44 : mRet 44 = some .boolean := rfl
theorem mr_44 : bR2 44 = bRI := rfl
theorem mq_44 : mIni 44 = false := by decide +kernel
theorem mc_45 : mCode 45 = cX5_stepLine := rfl
theorem mo_45 : mOwn 45 = 5 := rfl
theorem ma_45 : mArg 45 = 0 := rfl
theorem ms_45 : mSta 45 = false := rfl
theorem mi_45 : false = decide ((mName 45).name = "<init>") := by decide +kernel
theorem mt_45 : mRet 45 = some .boolean := rfl
theorem mr_45 : bR2 45 = bRI := rfl
theorem mq_45 : mIni 45 = false := by decide +kernel
theorem mc_46 : mCode 46 = cX5_reliefLine := rfl
theorem mo_46 : mOwn 46 = 5 := rfl
theorem ma_46 : mArg 46 = 0 := rfl
theorem ms_46 : mSta 46 = false := rfl
theorem mi_46 : false = decide ((mName 46).name = "<init>") := by decide +kernel
theorem mt_46 : mRet 46 = some .boolean := rfl
theorem mr_46 : bR2 46 = bRI := rfl
theorem mq_46 : mIni 46 = false := by decide +kernel
theorem mc_47 : mCode 47 = cX5_reliefOf := rfl
theorem mo_47 : mOwn 47 = 5 := rfl
theorem ma_47 : mArg 47 = 1 := rfl
theorem ms_47 : mSta 47 = true := rfl
theorem mi_47 : false = decide ((mName 47).name = "<init>") := by decide +kernel
theorem mt_47 : mRet 47 = some .int := rfl
theorem mr_47 : bR2 47 = bRI := rfl
theorem mq_47 : mIni 47 = false := by decide +kernel
theorem mc_48 : mCode 48 = cX5_pactLine := rfl
theorem mo_48 : mOwn 48 = 5 := rfl
theorem ma_48 : mArg 48 = 1 := rfl
theorem ms_48 : mSta 48 = false := rfl
theorem mi_48 : false = decide ((mName 48).name = "<init>") := by decide +kernel
theorem mt_48 : mRet 48 = some .boolean := rfl
theorem mr_48 : bR2 48 = bRI := rfl
theorem mq_48 : mIni 48 = false := by decide +kernel
theorem mc_49 : mCode 49 = cX5_testLine := rfl
theorem mo_49 : mOwn 49 = 5 := rfl
theorem ma_49 : mArg 49 = 0 := rfl
theorem ms_49 : mSta 49 = false := rfl
theorem mi_49 : false = decide ((mName 49).name = "<init>") := by decide +kernel
theorem mt_49 : mRet 49 = some .boolean := rfl
theorem mr_49 : bR2 49 = bRI := rfl
theorem mq_49 : mIni 49 = false := by decide +kernel
theorem mc_50 : mCode 50 = cX5_onlyLine := rfl
theorem mo_50 : mOwn 50 = 5 := rfl
theorem ma_50 : mArg 50 = 0 := rfl
theorem ms_50 : mSta 50 = false := rfl
theorem mi_50 : false = decide ((mName 50).name = "<init>") := by decide +kernel
theorem mt_50 : mRet 50 = some .boolean := rfl
theorem mr_50 : bR2 50 = bRI := rfl
theorem mq_50 : mIni 50 = false := by decide +kernel
theorem mc_51 : mCode 51 = cX5_topLine := rfl
theorem mo_51 : mOwn 51 = 5 := rfl
theorem ma_51 : mArg 51 = 0 := rfl
theorem ms_51 : mSta 51 = false := rfl
theorem mi_51 : false = decide ((mName 51).name = "<init>") := by decide +kernel
theorem mt_51 : mRet 51 = some .boolean := rfl
theorem mr_51 : bR2 51 = bRI := rfl
theorem mq_51 : mIni 51 = false := by decide +kernel
theorem mc_52 : mCode 52 = cX5_pactRelief := rfl
theorem mo_52 : mOwn 52 = 5 := rfl
theorem ma_52 : mArg 52 = 0 := rfl
theorem ms_52 : mSta 52 = false := rfl
theorem mi_52 : false = decide ((mName 52).name = "<init>") := by decide +kernel
theorem mt_52 : mRet 52 = some .boolean := rfl
theorem mr_52 : bR2 52 = bRI := rfl
theorem mq_52 : mIni 52 = false := by decide +kernel
theorem mc_53 : mCode 53 = cX5_condition := rfl
theorem mo_53 : mOwn 53 = 5 := rfl
theorem ma_53 : mArg 53 = 0 := rfl
theorem ms_53 : mSta 53 = false := rfl
theorem mi_53 : false = decide ((mName 53).name = "<init>") := by decide +kernel
theorem mt_53 : mRet 53 = some .boolean := rfl
theorem mr_53 : bR2 53 = bRI := rfl
theorem mq_53 : mIni 53 = false := by decide +kernel
theorem mc_54 : mCode 54 = cX5_await := rfl
theorem mo_54 : mOwn 54 = 5 := rfl
theorem ma_54 : mArg 54 = 1 := rfl
theorem ms_54 : mSta 54 = false := rfl
theorem mi_54 : false = decide ((mName 54).name = "<init>") := by decide +kernel
theorem mt_54 : mRet 54 = none := rfl
theorem mr_54 : bR2 54 = bRV := rfl
theorem mq_54 : mIni 54 = false := by decide +kernel
theorem mc_55 : mCode 55 = cX5_top := rfl
theorem mo_55 : mOwn 55 = 5 := rfl
theorem ma_55 : mArg 55 = 0 := rfl
theorem ms_55 : mSta 55 = false := rfl
theorem mi_55 : false = decide ((mName 55).name = "<init>") := by decide +kernel
theorem mt_55 : mRet 55 = some .int := rfl
theorem mr_55 : bR2 55 = bRI := rfl
theorem mq_55 : mIni 55 = false := by decide +kernel
theorem mc_56 : mCode 56 = cX5_closeClauses := rfl
theorem mo_56 : mOwn 56 = 5 := rfl
theorem ma_56 : mArg 56 = 0 := rfl
theorem ms_56 : mSta 56 = false := rfl
theorem mi_56 : false = decide ((mName 56).name = "<init>") := by decide +kernel
theorem mt_56 : mRet 56 = none := rfl
theorem mr_56 : bR2 56 = bRV := rfl
theorem mq_56 : mIni 56 = false := by decide +kernel
theorem mc_57 : mCode 57 = cX5_emitJoins := rfl
theorem mo_57 : mOwn 57 = 5 := rfl
theorem ma_57 : mArg 57 = 1 := rfl
theorem ms_57 : mSta 57 = false := rfl
theorem mi_57 : false = decide ((mName 57).name = "<init>") := by decide +kernel
theorem mt_57 : mRet 57 = none := rfl
theorem mr_57 : bR2 57 = bRV := rfl
theorem mq_57 : mIni 57 = false := by decide +kernel
theorem mc_58 : mCode 58 = cX5_endCondition := rfl
theorem mo_58 : mOwn 58 = 5 := rfl
theorem ma_58 : mArg 58 = 0 := rfl
theorem ms_58 : mSta 58 = false := rfl
theorem mi_58 : false = decide ((mName 58).name = "<init>") := by decide +kernel
theorem mt_58 : mRet 58 = some .boolean := rfl
theorem mr_58 : bR2 58 = bRI := rfl
theorem mq_58 : mIni 58 = false := by decide +kernel
theorem mc_59 : mCode 59 = cX5_comparing := rfl
theorem mo_59 : mOwn 59 = 5 := rfl
theorem ma_59 : mArg 59 = 1 := rfl
theorem ms_59 : mSta 59 = true := rfl
theorem mi_59 : false = decide ((mName 59).name = "<init>") := by decide +kernel
theorem mt_59 : mRet 59 = some .int := rfl
theorem mr_59 : bR2 59 = bRI := rfl
theorem mq_59 : mIni 59 = false := by decide +kernel
theorem mc_60 : mCode 60 = cX5_expression := rfl
theorem mo_60 : mOwn 60 = 5 := rfl
theorem ma_60 : mArg 60 = 0 := rfl
theorem ms_60 : mSta 60 = false := rfl
theorem mi_60 : false = decide ((mName 60).name = "<init>") := by decide +kernel
theorem mt_60 : mRet 60 = some .boolean := rfl
theorem mr_60 : bR2 60 = bRI := rfl
theorem mq_60 : mIni 60 = false := by decide +kernel
theorem mc_61 : mCode 61 = cX5_emitPending := rfl
theorem mo_61 : mOwn 61 = 5 := rfl
theorem ma_61 : mArg 61 = 1 := rfl
theorem ms_61 : mSta 61 = false := rfl
theorem mi_61 : false = decide ((mName 61).name = "<init>") := by decide +kernel
theorem mt_61 : mRet 61 = none := rfl
theorem mr_61 : bR2 61 = bRV := rfl
theorem mq_61 : mIni 61 = false := by decide +kernel
theorem mc_62 : mCode 62 = cX5_unit := rfl
theorem mo_62 : mOwn 62 = 5 := rfl
theorem ma_62 : mArg 62 = 0 := rfl
theorem ms_62 : mSta 62 = false := rfl
theorem mi_62 : false = decide ((mName 62).name = "<init>") := by decide +kernel
theorem mt_62 : mRet 62 = some .boolean := rfl
theorem mr_62 : bR2 62 = bRI := rfl
theorem mq_62 : mIni 62 = false := by decide +kernel
theorem mc_63 : mCode 63 = cX5_isDivisor := rfl
theorem mo_63 : mOwn 63 = 5 := rfl
theorem ma_63 : mArg 63 = 0 := rfl
theorem ms_63 : mSta 63 = false := rfl
theorem mi_63 : false = decide ((mName 63).name = "<init>") := by decide +kernel
theorem mt_63 : mRet 63 = some .boolean := rfl
theorem mr_63 : bR2 63 = bRI := rfl
theorem mq_63 : mIni 63 = false := by decide +kernel
theorem mc_64 : mCode 64 = cX5_isPart := rfl
theorem mo_64 : mOwn 64 = 5 := rfl
theorem ma_64 : mArg 64 = 0 := rfl
theorem ms_64 : mSta 64 = false := rfl
theorem mi_64 : false = decide ((mName 64).name = "<init>") := by decide +kernel
theorem mt_64 : mRet 64 = some .boolean := rfl
theorem mr_64 : bR2 64 = bRI := rfl
theorem mq_64 : mIni 64 = false := by decide +kernel
theorem mc_65 : mCode 65 = cX5_isKind := rfl
theorem mo_65 : mOwn 65 = 5 := rfl
theorem ma_65 : mArg 65 = 0 := rfl
theorem ms_65 : mSta 65 = false := rfl
theorem mi_65 : false = decide ((mName 65).name = "<init>") := by decide +kernel
theorem mt_65 : mRet 65 = some .boolean := rfl
theorem mr_65 : bR2 65 = bRI := rfl
theorem mq_65 : mIni 65 = false := by decide +kernel
theorem mc_66 : mCode 66 = cX5_isNewKind := rfl
theorem mo_66 : mOwn 66 = 5 := rfl
theorem ma_66 : mArg 66 = 1 := rfl
theorem ms_66 : mSta 66 = false := rfl
theorem mi_66 : false = decide ((mName 66).name = "<init>") := by decide +kernel
theorem mt_66 : mRet 66 = some .boolean := rfl
theorem mr_66 : bR2 66 = bRI := rfl
theorem mq_66 : mIni 66 = false := by decide +kernel
theorem mc_67 : mCode 67 = cX5_pass := rfl
theorem mo_67 : mOwn 67 = 5 := rfl
theorem ma_67 : mArg 67 = 1 := rfl
theorem ms_67 : mSta 67 = false := rfl
theorem mi_67 : false = decide ((mName 67).name = "<init>") := by decide +kernel
theorem mt_67 : mRet 67 = some .boolean := rfl
theorem mr_67 : bR2 67 = bRI := rfl
theorem mq_67 : mIni 67 = false := by decide +kernel
theorem mc_68 : mCode 68 = cX5_sign := rfl
theorem mo_68 : mOwn 68 = 5 := rfl
theorem ma_68 : mArg 68 = 0 := rfl
theorem ms_68 : mSta 68 = false := rfl
theorem mi_68 : false = decide ((mName 68).name = "<init>") := by decide +kernel
theorem mt_68 : mRet 68 = some .int := rfl
theorem mr_68 : bR2 68 = bRI := rfl
theorem mq_68 : mIni 68 = false := by decide +kernel
theorem mc_69 : mCode 69 = cX5_wrong := rfl
theorem mo_69 : mOwn 69 = 5 := rfl
theorem ma_69 : mArg 69 = 1 := rfl
theorem ms_69 : mSta 69 = false := rfl
theorem mi_69 : false = decide ((mName 69).name = "<init>") := by decide +kernel
theorem mt_69 : mRet 69 = some .boolean := rfl
theorem mr_69 : bR2 69 = bRI := rfl
theorem mq_69 : mIni 69 = false := by decide +kernel
theorem mc_70 : mCode 70 = cX5_scan := rfl
theorem mo_70 : mOwn 70 = 5 := rfl
theorem ma_70 : mArg 70 = 2 := rfl
theorem ms_70 : mSta 70 = false := rfl
theorem mi_70 : false = decide ((mName 70).name = "<init>") := by decide +kernel
theorem mt_70 : mRet 70 = none := rfl
theorem mr_70 : bR2 70 = bRV := rfl
theorem mq_70 : mIni 70 = false := by decide +kernel
theorem mc_71 : mCode 71 = cX5_addToken := rfl
theorem mo_71 : mOwn 71 = 5 := rfl
theorem ma_71 : mArg 71 = 3 := rfl
theorem ms_71 : mSta 71 = false := rfl
theorem mi_71 : false = decide ((mName 71).name = "<init>") := by decide +kernel
theorem mt_71 : mRet 71 = none := rfl
theorem mr_71 : bR2 71 = bRV := rfl
theorem mq_71 : mIni 71 = false := by decide +kernel
theorem mc_72 : mCode 72 = cX5_isLetter := rfl
theorem mo_72 : mOwn 72 = 5 := rfl
theorem ma_72 : mArg 72 = 1 := rfl
theorem ms_72 : mSta 72 = true := rfl
theorem mi_72 : false = decide ((mName 72).name = "<init>") := by decide +kernel
theorem mt_72 : mRet 72 = some .boolean := rfl
theorem mr_72 : bR2 72 = bRI := rfl
theorem mq_72 : mIni 72 = false := by decide +kernel
theorem mc_73 : mCode 73 = cX5_isDigit := rfl
theorem mo_73 : mOwn 73 = 5 := rfl
theorem ma_73 : mArg 73 = 1 := rfl
theorem ms_73 : mSta 73 = true := rfl
theorem mi_73 : false = decide ((mName 73).name = "<init>") := by decide +kernel
theorem mt_73 : mRet 73 = some .boolean := rfl
theorem mr_73 : bR2 73 = bRI := rfl
theorem mq_73 : mIni 73 = false := by decide +kernel
theorem mc_74 : mCode 74 = cX5_isSign := rfl
theorem mo_74 : mOwn 74 = 5 := rfl
theorem ma_74 : mArg 74 = 1 := rfl
theorem ms_74 : mSta 74 = true := rfl
theorem mi_74 : false = decide ((mName 74).name = "<init>") := by decide +kernel
theorem mt_74 : mRet 74 = some .boolean := rfl
theorem mr_74 : bR2 74 = bRI := rfl
theorem mq_74 : mIni 74 = false := by decide +kernel
theorem mc_75 : mCode 75 = cX5_number := rfl
theorem mo_75 : mOwn 75 = 5 := rfl
theorem ma_75 : mArg 75 = 3 := rfl
theorem ms_75 : mSta 75 = true := rfl
theorem mi_75 : false = decide ((mName 75).name = "<init>") := by decide +kernel
theorem mt_75 : mRet 75 = some .int := rfl
theorem mr_75 : bR2 75 = bRI := rfl
theorem mq_75 : mIni 75 = false := by decide +kernel
theorem mc_76 : mCode 76 = cX5_keyword := rfl
theorem mo_76 : mOwn 76 = 5 := rfl
theorem ma_76 : mArg 76 = 3 := rfl
theorem ms_76 : mSta 76 = false := rfl
theorem mi_76 : false = decide ((mName 76).name = "<init>") := by decide +kernel
theorem mt_76 : mRet 76 = some .int := rfl
theorem mr_76 : bR2 76 = bRI := rfl
theorem mq_76 : mIni 76 = false := by decide +kernel
theorem mc_77 : mCode 77 = cX6_init := rfl
theorem mo_77 : mOwn 77 = 6 := rfl
theorem ma_77 : mArg 77 = 0 := rfl
theorem ms_77 : mSta 77 = false := rfl
theorem mi_77 : true = decide ((mName 77).name = "<init>") := by decide +kernel
theorem mt_77 : mRet 77 = none := rfl
theorem mr_77 : bR2 77 = bRV := rfl
theorem mq_77 : mIni 77 = true := by decide +kernel
theorem mn_77 : (mName 77).name = "<init>" := rfl
theorem mc_78 : mCode 78 = cX6_answers := rfl
theorem mo_78 : mOwn 78 = 6 := rfl
theorem ma_78 : mArg 78 = 4 := rfl
theorem ms_78 : mSta 78 = false := rfl
theorem mi_78 : false = decide ((mName 78).name = "<init>") := by decide +kernel
theorem mt_78 : mRet 78 = some .boolean := rfl
theorem mr_78 : bR2 78 = bRI := rfl
theorem mq_78 : mIni 78 = false := by decide +kernel
theorem mc_79 : mCode 79 = cX6_fill := rfl
theorem mo_79 : mOwn 79 = 6 := rfl
theorem ma_79 : mArg 79 = 3 := rfl
theorem ms_79 : mSta 79 = false := rfl
theorem mi_79 : false = decide ((mName 79).name = "<init>") := by decide +kernel
theorem mt_79 : mRet 79 = some .int := rfl
theorem mr_79 : bR2 79 = bRI := rfl
theorem mq_79 : mIni 79 = false := by decide +kernel
theorem mc_80 : mCode 80 = cX6_eliminate := rfl
theorem mo_80 : mOwn 80 = 6 := rfl
theorem ma_80 : mArg 80 = 1 := rfl
theorem ms_80 : mSta 80 = false := rfl
theorem mi_80 : false = decide ((mName 80).name = "<init>") := by decide +kernel
theorem mt_80 : mRet 80 = some .boolean := rfl
theorem mr_80 : bR2 80 = bRI := rfl
theorem mq_80 : mIni 80 = false := by decide +kernel
theorem mc_81 : mCode 81 = cX6_bringPivot := rfl
theorem mo_81 : mOwn 81 = 6 := rfl
theorem ma_81 : mArg 81 = 2 := rfl
theorem ms_81 : mSta 81 = false := rfl
theorem mi_81 : false = decide ((mName 81).name = "<init>") := by decide +kernel
theorem mt_81 : mRet 81 = some .boolean := rfl
theorem mr_81 : bR2 81 = bRI := rfl
theorem mq_81 : mIni 81 = false := by decide +kernel
theorem mc_82 : mCode 82 = cX6_othersTakeNothing := rfl
theorem mo_82 : mOwn 82 = 6 := rfl
theorem ma_82 : mArg 82 = 4 := rfl
theorem ms_82 : mSta 82 = false := rfl
theorem mi_82 : false = decide ((mName 82).name = "<init>") := by decide +kernel
theorem mt_82 : mRet 82 = some .boolean := rfl
theorem mr_82 : bR2 82 = bRI := rfl
theorem mq_82 : mIni 82 = false := by decide +kernel
theorem mc_83 : mCode 83 = cX6_told := rfl
theorem mo_83 : mOwn 83 = 6 := rfl
theorem ma_83 : mArg 83 = 1 := rfl
theorem ms_83 : mSta 83 = false := rfl
theorem mi_83 : false = decide ((mName 83).name = "<init>") := by decide +kernel
theorem mt_83 : mRet 83 = some .long := rfl
theorem mr_83 : bR2 83 = bRJ := rfl
theorem mq_83 : mIni 83 = false := by decide +kernel
theorem mc_84 : mCode 84 = cX7_init := rfl
theorem mo_84 : mOwn 84 = 7 := rfl
theorem ma_84 : mArg 84 = 0 := rfl
theorem ms_84 : mSta 84 = false := rfl
theorem mi_84 : true = decide ((mName 84).name = "<init>") := by decide +kernel
theorem mt_84 : mRet 84 = none := rfl
theorem mr_84 : bR2 84 = bRV := rfl
theorem mq_84 : mIni 84 = true := by decide +kernel
theorem mn_84 : (mName 84).name = "<init>" := rfl
theorem mc_85 : mCode 85 = cX7_become := rfl
theorem mo_85 : mOwn 85 = 7 := rfl
theorem ma_85 : mArg 85 = 1 := rfl
theorem ms_85 : mSta 85 = false := rfl
theorem mi_85 : false = decide ((mName 85).name = "<init>") := by decide +kernel
theorem mt_85 : mRet 85 = none := rfl
theorem mr_85 : bR2 85 = bRV := rfl
theorem mq_85 : mIni 85 = false := by decide +kernel
theorem mc_86 : mCode 86 = cX7_shift := rfl
theorem mo_86 : mOwn 86 = 7 := rfl
theorem ma_86 : mArg 86 = 3 := rfl
theorem ms_86 : mSta 86 = false := rfl
theorem mi_86 : false = decide ((mName 86).name = "<init>") := by decide +kernel
theorem mt_86 : mRet 86 = none := rfl
theorem mr_86 : bR2 86 = bRV := rfl
theorem mq_86 : mIni 86 = false := by decide +kernel
theorem mc_87 : mCode 87 = cX7_add := rfl
theorem mo_87 : mOwn 87 = 7 := rfl
theorem ma_87 : mArg 87 = 2 := rfl
theorem ms_87 : mSta 87 = false := rfl
theorem mi_87 : false = decide ((mName 87).name = "<init>") := by decide +kernel
theorem mt_87 : mRet 87 = none := rfl
theorem mr_87 : bR2 87 = bRV := rfl
theorem mq_87 : mIni 87 = false := by decide +kernel
theorem mc_88 : mCode 88 = cX7_fill := rfl
theorem mo_88 : mOwn 88 = 7 := rfl
theorem ma_88 : mArg 88 = 2 := rfl
theorem ms_88 : mSta 88 = false := rfl
theorem mi_88 : false = decide ((mName 88).name = "<init>") := by decide +kernel
theorem mt_88 : mRet 88 = none := rfl
theorem mr_88 : bR2 88 = bRV := rfl
theorem mq_88 : mIni 88 = false := by decide +kernel
theorem mc_89 : mCode 89 = cX7_mostBut := rfl
theorem mo_89 : mOwn 89 = 7 := rfl
theorem ma_89 : mArg 89 = 1 := rfl
theorem ms_89 : mSta 89 = false := rfl
theorem mi_89 : false = decide ((mName 89).name = "<init>") := by decide +kernel
theorem mt_89 : mRet 89 = some .int := rfl
theorem mr_89 : bR2 89 = bRI := rfl
theorem mq_89 : mIni 89 = false := by decide +kernel
theorem mc_90 : mCode 90 = cX8_init := rfl
theorem mo_90 : mOwn 90 = 8 := rfl
theorem ma_90 : mArg 90 = 0 := rfl
theorem ms_90 : mSta 90 = false := rfl
theorem mi_90 : true = decide ((mName 90).name = "<init>") := by decide +kernel
theorem mt_90 : mRet 90 = none := rfl
theorem mr_90 : bR2 90 = bRV := rfl
theorem mq_90 : mIni 90 = true := by decide +kernel
theorem mc_91 : mCode 91 = cX9_init := rfl
theorem mo_91 : mOwn 91 = 9 := rfl
theorem ma_91 : mArg 91 = 0 := rfl
theorem ms_91 : mSta 91 = false := rfl
theorem mi_91 : true = decide ((mName 91).name = "<init>") := by decide +kernel
theorem mt_91 : mRet 91 = none := rfl
theorem mr_91 : bR2 91 = bRV := rfl
theorem mq_91 : mIni 91 = true := by decide +kernel
theorem mn_91 : (mName 91).name = "<init>" := rfl
theorem mc_92 : mCode 92 = cX9_tells := rfl
theorem mo_92 : mOwn 92 = 9 := rfl
theorem ma_92 : mArg 92 = 1 := rfl
theorem ms_92 : mSta 92 = false := rfl
theorem mi_92 : false = decide ((mName 92).name = "<init>") := by decide +kernel
theorem mt_92 : mRet 92 = some .boolean := rfl
theorem mr_92 : bR2 92 = bRI := rfl
theorem mq_92 : mIni 92 = false := by decide +kernel
theorem mc_93 : mCode 93 = cX9_spend := rfl
theorem mo_93 : mOwn 93 = 9 := rfl
theorem ma_93 : mArg 93 = 3 := rfl
theorem ms_93 : mSta 93 = false := rfl
theorem mi_93 : false = decide ((mName 93).name = "<init>") := by decide +kernel
theorem mt_93 : mRet 93 = none := rfl
theorem mr_93 : bR2 93 = bRV := rfl
theorem mq_93 : mIni 93 = false := by decide +kernel
theorem mc_94 : mCode 94 = cX9_moved := rfl
theorem mo_94 : mOwn 94 = 9 := rfl
theorem ma_94 : mArg 94 = 3 := rfl
theorem ms_94 : mSta 94 = false := rfl
theorem mi_94 : false = decide ((mName 94).name = "<init>") := by decide +kernel
theorem mt_94 : mRet 94 = none := rfl
theorem mr_94 : bR2 94 = bRV := rfl
theorem mq_94 : mIni 94 = false := by decide +kernel
theorem mc_95 : mCode 95 = cX9_base := rfl
theorem mo_95 : mOwn 95 = 9 := rfl
theorem ma_95 : mArg 95 = 0 := rfl
theorem ms_95 : mSta 95 = false := rfl
theorem mi_95 : false = decide ((mName 95).name = "<init>") := by decide +kernel
theorem mt_95 : mRet 95 = some .long := rfl
theorem mr_95 : bR2 95 = bRJ := rfl
theorem mq_95 : mIni 95 = false := by decide +kernel
theorem mc_96 : mCode 96 = cX10_init := rfl
theorem mo_96 : mOwn 96 = 10 := rfl
theorem ma_96 : mArg 96 = 0 := rfl
theorem ms_96 : mSta 96 = false := rfl
theorem mi_96 : true = decide ((mName 96).name = "<init>") := by decide +kernel
theorem mt_96 : mRet 96 = none := rfl
theorem mr_96 : bR2 96 = bRV := rfl
theorem mq_96 : mIni 96 = true := by decide +kernel
theorem mn_96 : (mName 96).name = "<init>" := rfl
theorem mc_97 : mCode 97 = cX10_night := rfl
theorem mo_97 : mOwn 97 = 10 := rfl
theorem ma_97 : mArg 97 = 4 := rfl
theorem ms_97 : mSta 97 = false := rfl
theorem mi_97 : false = decide ((mName 97).name = "<init>") := by decide +kernel
theorem mt_97 : mRet 97 = some .boolean := rfl
theorem mr_97 : bR2 97 = bRI := rfl
theorem mq_97 : mIni 97 = false := by decide +kernel
theorem mc_98 : mCode 98 = cX10_home := rfl
theorem mo_98 : mOwn 98 = 10 := rfl
theorem ma_98 : mArg 98 = 3 := rfl
theorem ms_98 : mSta 98 = false := rfl
theorem mi_98 : false = decide ((mName 98).name = "<init>") := by decide +kernel
theorem mt_98 : mRet 98 = some .boolean := rfl
theorem mr_98 : bR2 98 = bRI := rfl
theorem mq_98 : mIni 98 = false := by decide +kernel
theorem mc_99 : mCode 99 = cX10_tie := rfl
theorem mo_99 : mOwn 99 = 10 := rfl
theorem ma_99 : mArg 99 = 3 := rfl
theorem ms_99 : mSta 99 = false := rfl
theorem mi_99 : false = decide ((mName 99).name = "<init>") := by decide +kernel
theorem mt_99 : mRet 99 = some .boolean := rfl
theorem mr_99 : bR2 99 = bRI := rfl
theorem mq_99 : mIni 99 = false := by decide +kernel
theorem mc_100 : mCode 100 = cX10_sum := rfl
theorem mo_100 : mOwn 100 = 10 := rfl
theorem ma_100 : mArg 100 = 6 := rfl
theorem ms_100 : mSta 100 = false := rfl
theorem mi_100 : false = decide ((mName 100).name = "<init>") := by decide +kernel
theorem mt_100 : mRet 100 = some .int := rfl
theorem mr_100 : bR2 100 = bRI := rfl
theorem mq_100 : mIni 100 = false := by decide +kernel
theorem mc_101 : mCode 101 = cX10_feed := rfl
theorem mo_101 : mOwn 101 = 10 := rfl
theorem ma_101 : mArg 101 = 5 := rfl
theorem ms_101 : mSta 101 = false := rfl
theorem mi_101 : false = decide ((mName 101).name = "<init>") := by decide +kernel
theorem mt_101 : mRet 101 = some .int := rfl
theorem mr_101 : bR2 101 = bRI := rfl
theorem mq_101 : mIni 101 = false := by decide +kernel
theorem mc_102 : mCode 102 = cX10_putBytes := rfl
theorem mo_102 : mOwn 102 = 10 := rfl
theorem ma_102 : mArg 102 = 1 := rfl
theorem ms_102 : mSta 102 = false := rfl
theorem mi_102 : false = decide ((mName 102).name = "<init>") := by decide +kernel
theorem mt_102 : mRet 102 = none := rfl
theorem mr_102 : bR2 102 = bRV := rfl
theorem mq_102 : mIni 102 = false := by decide +kernel
theorem mc_103 : mCode 103 = cX10_end := rfl
theorem mo_103 : mOwn 103 = 10 := rfl
theorem ma_103 : mArg 103 = 1 := rfl
theorem ms_103 : mSta 103 = false := rfl
theorem mi_103 : false = decide ((mName 103).name = "<init>") := by decide +kernel
theorem mt_103 : mRet 103 = some .boolean := rfl
theorem mr_103 : bR2 103 = bRI := rfl
theorem mq_103 : mIni 103 = false := by decide +kernel
theorem mc_104 : mCode 104 = cX10_text := rfl
theorem mo_104 : mOwn 104 = 10 := rfl
theorem ma_104 : mArg 104 = 2 := rfl
theorem ms_104 : mSta 104 = false := rfl
theorem mi_104 : false = decide ((mName 104).name = "<init>") := by decide +kernel
theorem mt_104 : mRet 104 = some .int := rfl
theorem mr_104 : bR2 104 = bRI := rfl
theorem mq_104 : mIni 104 = false := by decide +kernel
theorem mc_105 : mCode 105 = cX10_fault := rfl
theorem mo_105 : mOwn 105 = 10 := rfl
theorem ma_105 : mArg 105 = 1 := rfl
theorem ms_105 : mSta 105 = false := rfl
theorem mi_105 : false = decide ((mName 105).name = "<init>") := by decide +kernel
theorem mt_105 : mRet 105 = some .int := rfl
theorem mr_105 : bR2 105 = bRI := rfl
theorem mq_105 : mIni 105 = false := by decide +kernel
theorem mc_106 : mCode 106 = cX10_of := rfl
theorem mo_106 : mOwn 106 = 10 := rfl
theorem ma_106 : mArg 106 = 3 := rfl
theorem ms_106 : mSta 106 = false := rfl
theorem mi_106 : false = decide ((mName 106).name = "<init>") := by decide +kernel
theorem mt_106 : mRet 106 = some .int := rfl
theorem mr_106 : bR2 106 = bRI := rfl
theorem mq_106 : mIni 106 = false := by decide +kernel
theorem mc_107 : mCode 107 = cX10_least := rfl
theorem mo_107 : mOwn 107 = 10 := rfl
theorem ma_107 : mArg 107 = 1 := rfl
theorem ms_107 : mSta 107 = true := rfl
theorem mi_107 : false = decide ((mName 107).name = "<init>") := by decide +kernel
theorem mt_107 : mRet 107 = some .int := rfl
theorem mr_107 : bR2 107 = bRI := rfl
theorem mq_107 : mIni 107 = false := by decide +kernel
theorem mc_108 : mCode 108 = cX10_decides := rfl
theorem mo_108 : mOwn 108 = 10 := rfl
theorem ma_108 : mArg 108 = 3 := rfl
theorem ms_108 : mSta 108 = false := rfl
theorem mi_108 : false = decide ((mName 108).name = "<init>") := by decide +kernel
theorem mt_108 : mRet 108 = some .int := rfl
theorem mr_108 : bR2 108 = bRI := rfl
theorem mq_108 : mIni 108 = false := by decide +kernel
theorem mc_109 : mCode 109 = cX10_tax := rfl
theorem mo_109 : mOwn 109 = 10 := rfl
theorem ma_109 : mArg 109 = 2 := rfl
theorem ms_109 : mSta 109 = false := rfl
theorem mi_109 : false = decide ((mName 109).name = "<init>") := by decide +kernel
theorem mt_109 : mRet 109 = some .long := rfl
theorem mr_109 : bR2 109 = bRJ := rfl
theorem mq_109 : mIni 109 = false := by decide +kernel
theorem mc_110 : mCode 110 = cX10_takes := rfl
theorem mo_110 : mOwn 110 = 10 := rfl
theorem ma_110 : mArg 110 = 4 := rfl
theorem ms_110 : mSta 110 = false := rfl
theorem mi_110 : false = decide ((mName 110).name = "<init>") := by decide +kernel
theorem mt_110 : mRet 110 = some .long := rfl
theorem mr_110 : bR2 110 = bRJ := rfl
theorem mq_110 : mIni 110 = false := by decide +kernel
theorem mc_111 : mCode 111 = cX10_owes := rfl
theorem mo_111 : mOwn 111 = 10 := rfl
theorem ma_111 : mArg 111 = 2 := rfl
theorem ms_111 : mSta 111 = false := rfl
theorem mi_111 : false = decide ((mName 111).name = "<init>") := by decide +kernel
theorem mt_111 : mRet 111 = some .long := rfl
theorem mr_111 : bR2 111 = bRJ := rfl
theorem mq_111 : mIni 111 = false := by decide +kernel
theorem mc_112 : mCode 112 = cX10_takenBy := rfl
theorem mo_112 : mOwn 112 = 10 := rfl
theorem ma_112 : mArg 112 = 3 := rfl
theorem ms_112 : mSta 112 = false := rfl
theorem mi_112 : false = decide ((mName 112).name = "<init>") := by decide +kernel
theorem mt_112 : mRet 112 = some .int := rfl
theorem mr_112 : bR2 112 = bRI := rfl
theorem mq_112 : mIni 112 = false := by decide +kernel
theorem mc_113 : mCode 113 = cX10_edge := rfl
theorem mo_113 : mOwn 113 = 10 := rfl
theorem ma_113 : mArg 113 = 4 := rfl
theorem ms_113 : mSta 113 = false := rfl
theorem mi_113 : false = decide ((mName 113).name = "<init>") := by decide +kernel
theorem mt_113 : mRet 113 = some .long := rfl
theorem mr_113 : bR2 113 = bRJ := rfl
theorem mq_113 : mIni 113 = false := by decide +kernel
theorem mc_114 : mCode 114 = cX10_edgeNights := rfl
theorem mo_114 : mOwn 114 = 10 := rfl
theorem ma_114 : mArg 114 = 3 := rfl
theorem ms_114 : mSta 114 = false := rfl
theorem mi_114 : false = decide ((mName 114).name = "<init>") := by decide +kernel
theorem mt_114 : mRet 114 = some .int := rfl
theorem mr_114 : bR2 114 = bRI := rfl
theorem mq_114 : mIni 114 = false := by decide +kernel
theorem mc_115 : mCode 115 = cX10_saysAfter := rfl
theorem mo_115 : mOwn 115 = 10 := rfl
theorem ma_115 : mArg 115 = 4 := rfl
theorem ms_115 : mSta 115 = false := rfl
theorem mi_115 : false = decide ((mName 115).name = "<init>") := by decide +kernel
theorem mt_115 : mRet 115 = some .boolean := rfl
theorem mr_115 : bR2 115 = bRI := rfl
theorem mq_115 : mIni 115 = false := by decide +kernel
theorem mc_116 : mCode 116 = cX10_hangs := rfl
theorem mo_116 : mOwn 116 = 10 := rfl
theorem ma_116 : mArg 116 = 2 := rfl
theorem ms_116 : mSta 116 = false := rfl
theorem mi_116 : false = decide ((mName 116).name = "<init>") := by decide +kernel
theorem mt_116 : mRet 116 = some .int := rfl
theorem mr_116 : bR2 116 = bRI := rfl
theorem mq_116 : mIni 116 = false := by decide +kernel
theorem mc_117 : mCode 117 = cX10_saysIfTold := rfl
theorem mo_117 : mOwn 117 = 10 := rfl
theorem ma_117 : mArg 117 = 4 := rfl
theorem ms_117 : mSta 117 = false := rfl
theorem mi_117 : false = decide ((mName 117).name = "<init>") := by decide +kernel
theorem mt_117 : mRet 117 = some .boolean := rfl
theorem mr_117 : bR2 117 = bRI := rfl
theorem mq_117 : mIni 117 = false := by decide +kernel
theorem mc_118 : mCode 118 = cX10_move := rfl
theorem mo_118 : mOwn 118 = 10 := rfl
theorem ma_118 : mArg 118 = 2 := rfl
theorem ms_118 : mSta 118 = false := rfl
theorem mi_118 : false = decide ((mName 118).name = "<init>") := by decide +kernel
theorem mt_118 : mRet 118 = some .int := rfl
theorem mr_118 : bR2 118 = bRI := rfl
theorem mq_118 : mIni 118 = false := by decide +kernel
theorem mc_119 : mCode 119 = cX10_best := rfl
theorem mo_119 : mOwn 119 = 10 := rfl
theorem ma_119 : mArg 119 = 2 := rfl
theorem ms_119 : mSta 119 = false := rfl
theorem mi_119 : false = decide ((mName 119).name = "<init>") := by decide +kernel
theorem mt_119 : mRet 119 = some .long := rfl
theorem mr_119 : bR2 119 = bRJ := rfl
theorem mq_119 : mIni 119 = false := by decide +kernel
theorem mc_120 : mCode 120 = cX10_owesMoved := rfl
theorem mo_120 : mOwn 120 = 10 := rfl
theorem ma_120 : mArg 120 = 2 := rfl
theorem ms_120 : mSta 120 = false := rfl
theorem mi_120 : false = decide ((mName 120).name = "<init>") := by decide +kernel
theorem mt_120 : mRet 120 = some .long := rfl
theorem mr_120 : bR2 120 = bRJ := rfl
theorem mq_120 : mIni 120 = false := by decide +kernel
theorem mc_121 : mCode 121 = cX10_turning := rfl
theorem mo_121 : mOwn 121 = 10 := rfl
theorem ma_121 : mArg 121 = 3 := rfl
theorem ms_121 : mSta 121 = false := rfl
theorem mi_121 : false = decide ((mName 121).name = "<init>") := by decide +kernel
theorem mt_121 : mRet 121 = some .int := rfl
theorem mr_121 : bR2 121 = bRI := rfl
theorem mq_121 : mIni 121 = false := by decide +kernel
theorem mc_122 : mCode 122 = cX10_sly := rfl
theorem mo_122 : mOwn 122 = 10 := rfl
theorem ma_122 : mArg 122 = 1 := rfl
theorem ms_122 : mSta 122 = false := rfl
theorem mi_122 : false = decide ((mName 122).name = "<init>") := by decide +kernel
theorem mt_122 : mRet 122 = some .long := rfl
theorem mr_122 : bR2 122 = bRJ := rfl
theorem mq_122 : mIni 122 = false := by decide +kernel
theorem mc_123 : mCode 123 = cX10_turn := rfl
theorem mo_123 : mOwn 123 = 10 := rfl
theorem ma_123 : mArg 123 = 1 := rfl
theorem ms_123 : mSta 123 = false := rfl
theorem mi_123 : false = decide ((mName 123).name = "<init>") := by decide +kernel
theorem mt_123 : mRet 123 = some (.object "FiveLands$Sum") := rfl
theorem mr_123 : bR2 123 = bRR := rfl
theorem mq_123 : mIni 123 = false := by decide +kernel
theorem mc_124 : mCode 124 = cX10_word := rfl
theorem mo_124 : mOwn 124 = 10 := rfl
theorem ma_124 : mArg 124 = 4 := rfl
theorem ms_124 : mSta 124 = false := rfl
theorem mi_124 : false = decide ((mName 124).name = "<init>") := by decide +kernel
theorem mt_124 : mRet 124 = some .int := rfl
theorem mr_124 : bR2 124 = bRI := rfl
theorem mq_124 : mIni 124 = false := by decide +kernel
theorem mc_125 : mCode 125 = cX10_mend := rfl
theorem mo_125 : mOwn 125 = 10 := rfl
theorem ma_125 : mArg 125 = 0 := rfl
theorem ms_125 : mSta 125 = false := rfl
theorem mi_125 : false = decide ((mName 125).name = "<init>") := by decide +kernel
theorem mt_125 : mRet 125 = some .int := rfl
theorem mr_125 : bR2 125 = bRI := rfl
theorem mq_125 : mIni 125 = false := by decide +kernel
theorem mc_126 : mCode 126 = cX10_closes := rfl
theorem mo_126 : mOwn 126 = 10 := rfl
theorem ma_126 : mArg 126 = 1 := rfl
theorem ms_126 : mSta 126 = false := rfl
theorem mi_126 : false = decide ((mName 126).name = "<init>") := by decide +kernel
theorem mt_126 : mRet 126 = some .boolean := rfl
theorem mr_126 : bR2 126 = bRI := rfl
theorem mq_126 : mIni 126 = false := by decide +kernel
theorem mc_127 : mCode 127 = cX10_closes := rfl
theorem mo_127 : mOwn 127 = 10 := rfl
theorem ma_127 : mArg 127 = 1 := rfl
theorem ms_127 : mSta 127 = false := rfl
theorem mi_127 : false = decide ((mName 127).name = "<init>") := by decide +kernel
theorem mt_127 : mRet 127 = some .boolean := rfl
theorem mr_127 : bR2 127 = bRI := rfl
theorem mq_127 : mIni 127 = false := by decide +kernel
theorem mc_128 : mCode 128 = cX10_owesUnder := rfl
theorem mo_128 : mOwn 128 = 10 := rfl
theorem ma_128 : mArg 128 = 1 := rfl
theorem ms_128 : mSta 128 = false := rfl
theorem mi_128 : false = decide ((mName 128).name = "<init>") := by decide +kernel
theorem mt_128 : mRet 128 = some .long := rfl
theorem mr_128 : bR2 128 = bRJ := rfl
theorem mq_128 : mIni 128 = false := by decide +kernel
theorem mc_129 : mCode 129 = cX10_amend := rfl
theorem mo_129 : mOwn 129 = 10 := rfl
theorem ma_129 : mArg 129 = 1 := rfl
theorem ms_129 : mSta 129 = false := rfl
theorem mi_129 : false = decide ((mName 129).name = "<init>") := by decide +kernel
theorem mt_129 : mRet 129 = none := rfl
theorem mr_129 : bR2 129 = bRV := rfl
theorem mq_129 : mIni 129 = false := by decide +kernel
theorem mc_130 : mCode 130 = cX10_round := rfl
theorem mo_130 : mOwn 130 = 10 := rfl
theorem ma_130 : mArg 130 = 4 := rfl
theorem ms_130 : mSta 130 = false := rfl
theorem mi_130 : false = decide ((mName 130).name = "<init>") := by decide +kernel
theorem mt_130 : mRet 130 = some .int := rfl
theorem mr_130 : bR2 130 = bRI := rfl
theorem mq_130 : mIni 130 = false := by decide +kernel
theorem mc_131 : mCode 131 = cX10_leg := rfl
theorem mo_131 : mOwn 131 = 10 := rfl
theorem ma_131 : mArg 131 = 3 := rfl
theorem ms_131 : mSta 131 = false := rfl
theorem mi_131 : false = decide ((mName 131).name = "<init>") := by decide +kernel
theorem mt_131 : mRet 131 = some .int := rfl
theorem mr_131 : bR2 131 = bRI := rfl
theorem mq_131 : mIni 131 = false := by decide +kernel
theorem mc_132 : mCode 132 = cX10_answer := rfl
theorem mo_132 : mOwn 132 = 10 := rfl
theorem ma_132 : mArg 132 = 4 := rfl
theorem ms_132 : mSta 132 = false := rfl
theorem mi_132 : false = decide ((mName 132).name = "<init>") := by decide +kernel
theorem mt_132 : mRet 132 = some .int := rfl
theorem mr_132 : bR2 132 = bRI := rfl
theorem mq_132 : mIni 132 = false := by decide +kernel
theorem mc_133 : mCode 133 = cX10_judged := rfl
theorem mo_133 : mOwn 133 = 10 := rfl
theorem ma_133 : mArg 133 = 0 := rfl
theorem ms_133 : mSta 133 = false := rfl
theorem mi_133 : false = decide ((mName 133).name = "<init>") := by decide +kernel
theorem mt_133 : mRet 133 = some .int := rfl
theorem mr_133 : bR2 133 = bRI := rfl
theorem mq_133 : mIni 133 = false := by decide +kernel
theorem mc_134 : mCode 134 = cX10_truth := rfl
theorem mo_134 : mOwn 134 = 10 := rfl
theorem ma_134 : mArg 134 = 1 := rfl
theorem ms_134 : mSta 134 = false := rfl
theorem mi_134 : false = decide ((mName 134).name = "<init>") := by decide +kernel
theorem mt_134 : mRet 134 = some .long := rfl
theorem mr_134 : bR2 134 = bRJ := rfl
theorem mq_134 : mIni 134 = false := by decide +kernel
theorem mc_135 : mCode 135 = cX10_look := rfl
theorem mo_135 : mOwn 135 = 10 := rfl
theorem ma_135 : mArg 135 = 1 := rfl
theorem ms_135 : mSta 135 = false := rfl
theorem mi_135 : false = decide ((mName 135).name = "<init>") := by decide +kernel
theorem mt_135 : mRet 135 = some .int := rfl
theorem mr_135 : bR2 135 = bRI := rfl
theorem mq_135 : mIni 135 = false := by decide +kernel
theorem mc_136 : mCode 136 = cX10_hear := rfl
theorem mo_136 : mOwn 136 = 10 := rfl
theorem ma_136 : mArg 136 = 1 := rfl
theorem ms_136 : mSta 136 = false := rfl
theorem mi_136 : false = decide ((mName 136).name = "<init>") := by decide +kernel
theorem mt_136 : mRet 136 = none := rfl
theorem mr_136 : bR2 136 = bRV := rfl
theorem mq_136 : mIni 136 = false := by decide +kernel
theorem mc_137 : mCode 137 = cX10_isYear := rfl
theorem mo_137 : mOwn 137 = 10 := rfl
theorem ma_137 : mArg 137 = 1 := rfl
theorem ms_137 : mSta 137 = true := rfl
theorem mi_137 : false = decide ((mName 137).name = "<init>") := by decide +kernel
theorem mt_137 : mRet 137 = some .boolean := rfl
theorem mr_137 : bR2 137 = bRI := rfl
theorem mq_137 : mIni 137 = false := by decide +kernel
theorem mc_138 : mCode 138 = cX10_isLand := rfl
theorem mo_138 : mOwn 138 = 10 := rfl
theorem ma_138 : mArg 138 = 1 := rfl
theorem ms_138 : mSta 138 = true := rfl
theorem mi_138 : false = decide ((mName 138).name = "<init>") := by decide +kernel
theorem mt_138 : mRet 138 = some .boolean := rfl
theorem mr_138 : bR2 138 = bRI := rfl
theorem mq_138 : mIni 138 = false := by decide +kernel
theorem mc_139 : mCode 139 = cX10_isLandOrNone := rfl
theorem mo_139 : mOwn 139 = 10 := rfl
theorem ma_139 : mArg 139 = 1 := rfl
theorem ms_139 : mSta 139 = true := rfl
theorem mi_139 : false = decide ((mName 139).name = "<init>") := by decide +kernel
theorem mt_139 : mRet 139 = some .boolean := rfl
theorem mr_139 : bR2 139 = bRI := rfl
theorem mq_139 : mIni 139 = false := by decide +kernel
theorem mc_140 : mCode 140 = cX10_has := rfl
theorem mo_140 : mOwn 140 = 10 := rfl
theorem ma_140 : mArg 140 = 2 := rfl
theorem ms_140 : mSta 140 = true := rfl
theorem mi_140 : false = decide ((mName 140).name = "<init>") := by decide +kernel
theorem mt_140 : mRet 140 = some .boolean := rfl
theorem mr_140 : bR2 140 = bRI := rfl
theorem mq_140 : mIni 140 = false := by decide +kernel
theorem mc_141 : mCode 141 = cX10_pair := rfl
theorem mo_141 : mOwn 141 = 10 := rfl
theorem ma_141 : mArg 141 = 2 := rfl
theorem ms_141 : mSta 141 = true := rfl
theorem mi_141 : false = decide ((mName 141).name = "<init>") := by decide +kernel
theorem mt_141 : mRet 141 = some .int := rfl
theorem mr_141 : bR2 141 = bRI := rfl
theorem mq_141 : mIni 141 = false := by decide +kernel
theorem mc_142 : mCode 142 = cX11_isIn := rfl
theorem mo_142 : mOwn 142 = 11 := rfl
theorem ma_142 : mArg 142 = 3 := rfl
theorem ms_142 : mSta 142 = true := rfl
theorem mi_142 : false = decide ((mName 142).name = "<init>") := by decide +kernel
theorem mt_142 : mRet 142 = some .boolean := rfl
theorem mr_142 : bR2 142 = bRI := rfl
theorem mq_142 : mIni 142 = false := by decide +kernel
theorem mc_143 : mCode 143 = cX11_isYear := rfl
theorem mo_143 : mOwn 143 = 11 := rfl
theorem ma_143 : mArg 143 = 1 := rfl
theorem ms_143 : mSta 143 = true := rfl
theorem mi_143 : false = decide ((mName 143).name = "<init>") := by decide +kernel
theorem mt_143 : mRet 143 = some .boolean := rfl
theorem mr_143 : bR2 143 = bRI := rfl
theorem mq_143 : mIni 143 = false := by decide +kernel
theorem mc_144 : mCode 144 = cX11_isLand := rfl
theorem mo_144 : mOwn 144 = 11 := rfl
theorem ma_144 : mArg 144 = 1 := rfl
theorem ms_144 : mSta 144 = true := rfl
theorem mi_144 : false = decide ((mName 144).name = "<init>") := by decide +kernel
theorem mt_144 : mRet 144 = some .boolean := rfl
theorem mr_144 : bR2 144 = bRI := rfl
theorem mq_144 : mIni 144 = false := by decide +kernel
theorem mc_145 : mCode 145 = cX11_count := rfl
theorem mo_145 : mOwn 145 = 11 := rfl
theorem ma_145 : mArg 145 = 1 := rfl
theorem ms_145 : mSta 145 = true := rfl
theorem mi_145 : false = decide ((mName 145).name = "<init>") := by decide +kernel
theorem mt_145 : mRet 145 = some .int := rfl
theorem mr_145 : bR2 145 = bRI := rfl
theorem mq_145 : mIni 145 = false := by decide +kernel
theorem mc_146 : mCode 146 = cX11_init := rfl
theorem mo_146 : mOwn 146 = 11 := rfl
theorem ma_146 : mArg 146 = 0 := rfl
theorem ms_146 : mSta 146 = false := rfl
theorem mi_146 : true = decide ((mName 146).name = "<init>") := by decide +kernel
theorem mt_146 : mRet 146 = none := rfl
theorem mr_146 : bR2 146 = bRV := rfl
theorem mq_146 : mIni 146 = true := by decide +kernel
theorem mn_146 : (mName 146).name = "<init>" := rfl
theorem mc_147 : mCode 147 = cX11_night := rfl
theorem mo_147 : mOwn 147 = 11 := rfl
theorem ma_147 : mArg 147 = 4 := rfl
theorem ms_147 : mSta 147 = false := rfl
theorem mi_147 : false = decide ((mName 147).name = "<init>") := by decide +kernel
theorem mt_147 : mRet 147 = some .boolean := rfl
theorem mr_147 : bR2 147 = bRI := rfl
theorem mq_147 : mIni 147 = false := by decide +kernel
theorem mc_148 : mCode 148 = cX11_home := rfl
theorem mo_148 : mOwn 148 = 11 := rfl
theorem ma_148 : mArg 148 = 3 := rfl
theorem ms_148 : mSta 148 = false := rfl
theorem mi_148 : false = decide ((mName 148).name = "<init>") := by decide +kernel
theorem mt_148 : mRet 148 = some .boolean := rfl
theorem mr_148 : bR2 148 = bRI := rfl
theorem mq_148 : mIni 148 = false := by decide +kernel
theorem mc_149 : mCode 149 = cX11_tie := rfl
theorem mo_149 : mOwn 149 = 11 := rfl
theorem ma_149 : mArg 149 = 3 := rfl
theorem ms_149 : mSta 149 = false := rfl
theorem mi_149 : false = decide ((mName 149).name = "<init>") := by decide +kernel
theorem mt_149 : mRet 149 = some .boolean := rfl
theorem mr_149 : bR2 149 = bRI := rfl
theorem mq_149 : mIni 149 = false := by decide +kernel
theorem mc_150 : mCode 150 = cX11_sum := rfl
theorem mo_150 : mOwn 150 = 11 := rfl
theorem ma_150 : mArg 150 = 6 := rfl
theorem ms_150 : mSta 150 = false := rfl
theorem mi_150 : false = decide ((mName 150).name = "<init>") := by decide +kernel
theorem mt_150 : mRet 150 = some .int := rfl
theorem mr_150 : bR2 150 = bRI := rfl
theorem mq_150 : mIni 150 = false := by decide +kernel
theorem mc_151 : mCode 151 = cX11_feed := rfl
theorem mo_151 : mOwn 151 = 11 := rfl
theorem ma_151 : mArg 151 = 5 := rfl
theorem ms_151 : mSta 151 = false := rfl
theorem mi_151 : false = decide ((mName 151).name = "<init>") := by decide +kernel
theorem mt_151 : mRet 151 = some .int := rfl
theorem mr_151 : bR2 151 = bRI := rfl
theorem mq_151 : mIni 151 = false := by decide +kernel
theorem mc_152 : mCode 152 = cX11_end := rfl
theorem mo_152 : mOwn 152 = 11 := rfl
theorem ma_152 : mArg 152 = 1 := rfl
theorem ms_152 : mSta 152 = false := rfl
theorem mi_152 : false = decide ((mName 152).name = "<init>") := by decide +kernel
theorem mt_152 : mRet 152 = some .boolean := rfl
theorem mr_152 : bR2 152 = bRI := rfl
theorem mq_152 : mIni 152 = false := by decide +kernel
theorem mc_153 : mCode 153 = cX11_see := rfl
theorem mo_153 : mOwn 153 = 11 := rfl
theorem ma_153 : mArg 153 = 1 := rfl
theorem ms_153 : mSta 153 = false := rfl
theorem mi_153 : false = decide ((mName 153).name = "<init>") := by decide +kernel
theorem mt_153 : mRet 153 = some .int := rfl
theorem mr_153 : bR2 153 = bRI := rfl
theorem mq_153 : mIni 153 = false := by decide +kernel
theorem mc_154 : mCode 154 = cX11_isLetter := rfl
theorem mo_154 : mOwn 154 = 11 := rfl
theorem ma_154 : mArg 154 = 1 := rfl
theorem ms_154 : mSta 154 = true := rfl
theorem mi_154 : false = decide ((mName 154).name = "<init>") := by decide +kernel
theorem mt_154 : mRet 154 = some .boolean := rfl
theorem mr_154 : bR2 154 = bRI := rfl
theorem mq_154 : mIni 154 = false := by decide +kernel
theorem mc_155 : mCode 155 = cX11_isDigit := rfl
theorem mo_155 : mOwn 155 = 11 := rfl
theorem ma_155 : mArg 155 = 1 := rfl
theorem ms_155 : mSta 155 = true := rfl
theorem mi_155 : false = decide ((mName 155).name = "<init>") := by decide +kernel
theorem mt_155 : mRet 155 = some .boolean := rfl
theorem mr_155 : bR2 155 = bRI := rfl
theorem mq_155 : mIni 155 = false := by decide +kernel
theorem mc_156 : mCode 156 = cX11_is := rfl
theorem mo_156 : mOwn 156 = 11 := rfl
theorem ma_156 : mArg 156 = 1 := rfl
theorem ms_156 : mSta 156 = false := rfl
theorem mi_156 : false = decide ((mName 156).name = "<init>") := by decide +kernel
theorem mt_156 : mRet 156 = some .boolean := rfl
theorem mr_156 : bR2 156 = bRI := rfl
theorem mq_156 : mIni 156 = false := by decide +kernel
theorem mc_157 : mCode 157 = cX11_kindWord := rfl
theorem mo_157 : mOwn 157 = 11 := rfl
theorem ma_157 : mArg 157 = 0 := rfl
theorem ms_157 : mSta 157 = false := rfl
theorem mi_157 : false = decide ((mName 157).name = "<init>") := by decide +kernel
theorem mt_157 : mRet 157 = some .int := rfl
theorem mr_157 : bR2 157 = bRI := rfl
theorem mq_157 : mIni 157 = false := by decide +kernel
theorem mc_158 : mCode 158 = cX11_word := rfl
theorem mo_158 : mOwn 158 = 11 := rfl
theorem ma_158 : mArg 158 = 0 := rfl
theorem ms_158 : mSta 158 = false := rfl
theorem mi_158 : false = decide ((mName 158).name = "<init>") := by decide +kernel
theorem mt_158 : mRet 158 = some .int := rfl
theorem mr_158 : bR2 158 = bRI := rfl
theorem mq_158 : mIni 158 = false := by decide +kernel
theorem mc_159 : mCode 159 = cX11_next0 := rfl
theorem mo_159 : mOwn 159 = 11 := rfl
theorem ma_159 : mArg 159 = 0 := rfl
theorem ms_159 : mSta 159 = false := rfl
theorem mi_159 : false = decide ((mName 159).name = "<init>") := by decide +kernel
theorem mt_159 : mRet 159 = none := rfl
theorem mr_159 : bR2 159 = bRV := rfl
theorem mq_159 : mIni 159 = false := by decide +kernel
theorem mc_160 : mCode 160 = cX11_bad := rfl
theorem mo_160 : mOwn 160 = 11 := rfl
theorem ma_160 : mArg 160 = 1 := rfl
theorem ms_160 : mSta 160 = false := rfl
theorem mi_160 : false = decide ((mName 160).name = "<init>") := by decide +kernel
theorem mt_160 : mRet 160 = some .boolean := rfl
theorem mr_160 : bR2 160 = bRI := rfl
theorem mq_160 : mIni 160 = false := by decide +kernel
theorem mc_161 : mCode 161 = cX11_need := rfl
theorem mo_161 : mOwn 161 = 11 := rfl
theorem ma_161 : mArg 161 = 1 := rfl
theorem ms_161 : mSta 161 = false := rfl
theorem mi_161 : false = decide ((mName 161).name = "<init>") := by decide +kernel
theorem mt_161 : mRet 161 = some .boolean := rfl
theorem mr_161 : bR2 161 = bRI := rfl
theorem mq_161 : mIni 161 = false := by decide +kernel
theorem mc_162 : mCode 162 = cX11_number := rfl
theorem mo_162 : mOwn 162 = 11 := rfl
theorem ma_162 : mArg 162 = 2 := rfl
theorem ms_162 : mSta 162 = false := rfl
theorem mi_162 : false = decide ((mName 162).name = "<init>") := by decide +kernel
theorem mt_162 : mRet 162 = some .boolean := rfl
theorem mr_162 : bR2 162 = bRI := rfl
theorem mq_162 : mIni 162 = false := by decide +kernel
theorem mc_163 : mCode 163 = cX11_lay := rfl
theorem mo_163 : mOwn 163 = 11 := rfl
theorem ma_163 : mArg 163 = 2 := rfl
theorem ms_163 : mSta 163 = false := rfl
theorem mi_163 : false = decide ((mName 163).name = "<init>") := by decide +kernel
theorem mt_163 : mRet 163 = none := rfl
theorem mr_163 : bR2 163 = bRV := rfl
theorem mq_163 : mIni 163 = false := by decide +kernel
theorem mc_164 : mCode 164 = cX11_opens := rfl
theorem mo_164 : mOwn 164 = 11 := rfl
theorem ma_164 : mArg 164 = 0 := rfl
theorem ms_164 : mSta 164 = false := rfl
theorem mi_164 : false = decide ((mName 164).name = "<init>") := by decide +kernel
theorem mt_164 : mRet 164 = some .boolean := rfl
theorem mr_164 : bR2 164 = bRI := rfl
theorem mq_164 : mIni 164 = false := by decide +kernel
theorem mc_165 : mCode 165 = cX11_sumUp := rfl
theorem mo_165 : mOwn 165 = 11 := rfl
theorem ma_165 : mArg 165 = 0 := rfl
theorem ms_165 : mSta 165 = false := rfl
theorem mi_165 : false = decide ((mName 165).name = "<init>") := by decide +kernel
theorem mt_165 : mRet 165 = some .boolean := rfl
theorem mr_165 : bR2 165 = bRI := rfl
theorem mq_165 : mIni 165 = false := by decide +kernel
theorem mc_166 : mCode 166 = cX11_product := rfl
theorem mo_166 : mOwn 166 = 11 := rfl
theorem ma_166 : mArg 166 = 0 := rfl
theorem ms_166 : mSta 166 = false := rfl
theorem mi_166 : false = decide ((mName 166).name = "<init>") := by decide +kernel
theorem mt_166 : mRet 166 = some .boolean := rfl
theorem mr_166 : bR2 166 = bRI := rfl
theorem mq_166 : mIni 166 = false := by decide +kernel
theorem mc_167 : mCode 167 = cX11_unit := rfl
theorem mo_167 : mOwn 167 = 11 := rfl
theorem ma_167 : mArg 167 = 0 := rfl
theorem ms_167 : mSta 167 = false := rfl
theorem mi_167 : false = decide ((mName 167).name = "<init>") := by decide +kernel
theorem mt_167 : mRet 167 = some .boolean := rfl
theorem mr_167 : bR2 167 = bRI := rfl
theorem mq_167 : mIni 167 = false := by decide +kernel
theorem mc_168 : mCode 168 = cX11_any := rfl
theorem mo_168 : mOwn 168 = 11 := rfl
theorem ma_168 : mArg 168 = 0 := rfl
theorem ms_168 : mSta 168 = false := rfl
theorem mi_168 : false = decide ((mName 168).name = "<init>") := by decide +kernel
theorem mt_168 : mRet 168 = some .boolean := rfl
theorem mr_168 : bR2 168 = bRI := rfl
theorem mq_168 : mIni 168 = false := by decide +kernel
theorem mc_169 : mCode 169 = cX11_every := rfl
theorem mo_169 : mOwn 169 = 11 := rfl
theorem ma_169 : mArg 169 = 0 := rfl
theorem ms_169 : mSta 169 = false := rfl
theorem mi_169 : false = decide ((mName 169).name = "<init>") := by decide +kernel
theorem mt_169 : mRet 169 = some .boolean := rfl
theorem mr_169 : bR2 169 = bRI := rfl
theorem mq_169 : mIni 169 = false := by decide +kernel
theorem mc_170 : mCode 170 = cX11_one := rfl
theorem mo_170 : mOwn 170 = 11 := rfl
theorem ma_170 : mArg 170 = 0 := rfl
theorem ms_170 : mSta 170 = false := rfl
theorem mi_170 : false = decide ((mName 170).name = "<init>") := by decide +kernel
theorem mt_170 : mRet 170 = some .boolean := rfl
theorem mr_170 : bR2 170 = bRI := rfl
theorem mq_170 : mIni 170 = false := by decide +kernel
theorem mc_171 : mCode 171 = cX11_aKind := rfl
theorem mo_171 : mOwn 171 = 11 := rfl
theorem ma_171 : mArg 171 = 0 := rfl
theorem ms_171 : mSta 171 = false := rfl
theorem mi_171 : false = decide ((mName 171).name = "<init>") := by decide +kernel
theorem mt_171 : mRet 171 = some .boolean := rfl
theorem mr_171 : bR2 171 = bRI := rfl
theorem mq_171 : mIni 171 = false := by decide +kernel
theorem mc_172 : mCode 172 = cX11_aRule := rfl
theorem mo_172 : mOwn 172 = 11 := rfl
theorem ma_172 : mArg 172 = 1 := rfl
theorem ms_172 : mSta 172 = false := rfl
theorem mi_172 : false = decide ((mName 172).name = "<init>") := by decide +kernel
theorem mt_172 : mRet 172 = some .boolean := rfl
theorem mr_172 : bR2 172 = bRI := rfl
theorem mq_172 : mIni 172 = false := by decide +kernel
theorem mc_173 : mCode 173 = cX11_aStep := rfl
theorem mo_173 : mOwn 173 = 11 := rfl
theorem ma_173 : mArg 173 = 0 := rfl
theorem ms_173 : mSta 173 = false := rfl
theorem mi_173 : false = decide ((mName 173).name = "<init>") := by decide +kernel
theorem mt_173 : mRet 173 = some .boolean := rfl
theorem mr_173 : bR2 173 = bRI := rfl
theorem mq_173 : mIni 173 = false := by decide +kernel
theorem mc_174 : mCode 174 = cX11_relief := rfl
theorem mo_174 : mOwn 174 = 11 := rfl
theorem ma_174 : mArg 174 = 0 := rfl
theorem ms_174 : mSta 174 = false := rfl
theorem mi_174 : false = decide ((mName 174).name = "<init>") := by decide +kernel
theorem mt_174 : mRet 174 = some .int := rfl
theorem mr_174 : bR2 174 = bRI := rfl
theorem mq_174 : mIni 174 = false := by decide +kernel
theorem mc_175 : mCode 175 = cX11_lawLine := rfl
theorem mo_175 : mOwn 175 = 11 := rfl
theorem ma_175 : mArg 175 = 0 := rfl
theorem ms_175 : mSta 175 = false := rfl
theorem mi_175 : false = decide ((mName 175).name = "<init>") := by decide +kernel
theorem mt_175 : mRet 175 = some .boolean := rfl
theorem mr_175 : bR2 175 = bRI := rfl
theorem mq_175 : mIni 175 = false := by decide +kernel
theorem mc_176 : mCode 176 = cX11_ofKind := rfl
theorem mo_176 : mOwn 176 = 11 := rfl
theorem ma_176 : mArg 176 = 1 := rfl
theorem ms_176 : mSta 176 = false := rfl
theorem mi_176 : false = decide ((mName 176).name = "<init>") := by decide +kernel
theorem mt_176 : mRet 176 = some .boolean := rfl
theorem mr_176 : bR2 176 = bRI := rfl
theorem mq_176 : mIni 176 = false := by decide +kernel
theorem mc_177 : mCode 177 = cX11_pactLine := rfl
theorem mo_177 : mOwn 177 = 11 := rfl
theorem ma_177 : mArg 177 = 0 := rfl
theorem ms_177 : mSta 177 = false := rfl
theorem mi_177 : false = decide ((mName 177).name = "<init>") := by decide +kernel
theorem mt_177 : mRet 177 = some .boolean := rfl
theorem mr_177 : bR2 177 = bRI := rfl
theorem mq_177 : mIni 177 = false := by decide +kernel
theorem mc_178 : mCode 178 = cX11_empties := rfl
theorem mo_178 : mOwn 178 = 11 := rfl
theorem ma_178 : mArg 178 = 0 := rfl
theorem ms_178 : mSta 178 = false := rfl
theorem mi_178 : false = decide ((mName 178).name = "<init>") := by decide +kernel
theorem mt_178 : mRet 178 = none := rfl
theorem mr_178 : bR2 178 = bRV := rfl
theorem mq_178 : mIni 178 = false := by decide +kernel
theorem mc_179 : mCode 179 = cX11_clearsPact := rfl
theorem mo_179 : mOwn 179 = 11 := rfl
theorem ma_179 : mArg 179 = 1 := rfl
theorem ms_179 : mSta 179 = false := rfl
theorem mi_179 : false = decide ((mName 179).name = "<init>") := by decide +kernel
theorem mt_179 : mRet 179 = none := rfl
theorem mr_179 : bR2 179 = bRV := rfl
theorem mq_179 : mIni 179 = false := by decide +kernel
theorem mc_180 : mCode 180 = cX11_keepsLaw := rfl
theorem mo_180 : mOwn 180 = 11 := rfl
theorem ma_180 : mArg 180 = 1 := rfl
theorem ms_180 : mSta 180 = false := rfl
theorem mi_180 : false = decide ((mName 180).name = "<init>") := by decide +kernel
theorem mt_180 : mRet 180 = none := rfl
theorem mr_180 : bR2 180 = bRV := rfl
theorem mq_180 : mIni 180 = false := by decide +kernel
theorem mc_181 : mCode 181 = cX11_keepsPact := rfl
theorem mo_181 : mOwn 181 = 11 := rfl
theorem ma_181 : mArg 181 = 1 := rfl
theorem ms_181 : mSta 181 = false := rfl
theorem mi_181 : false = decide ((mName 181).name = "<init>") := by decide +kernel
theorem mt_181 : mRet 181 = none := rfl
theorem mr_181 : bR2 181 = bRV := rfl
theorem mq_181 : mIni 181 = false := by decide +kernel
theorem mc_182 : mCode 182 = cX11_text := rfl
theorem mo_182 : mOwn 182 = 11 := rfl
theorem ma_182 : mArg 182 = 2 := rfl
theorem ms_182 : mSta 182 = false := rfl
theorem mi_182 : false = decide ((mName 182).name = "<init>") := by decide +kernel
theorem mt_182 : mRet 182 = some .int := rfl
theorem mr_182 : bR2 182 = bRI := rfl
theorem mq_182 : mIni 182 = false := by decide +kernel
theorem mc_183 : mCode 183 = cX11_fault := rfl
theorem mo_183 : mOwn 183 = 11 := rfl
theorem ma_183 : mArg 183 = 1 := rfl
theorem ms_183 : mSta 183 = false := rfl
theorem mi_183 : false = decide ((mName 183).name = "<init>") := by decide +kernel
theorem mt_183 : mRet 183 = some .int := rfl
theorem mr_183 : bR2 183 = bRI := rfl
theorem mq_183 : mIni 183 = false := by decide +kernel
theorem mc_184 : mCode 184 = cX11_both := rfl
theorem mo_184 : mOwn 184 = 11 := rfl
theorem ma_184 : mArg 184 = 3 := rfl
theorem ms_184 : mSta 184 = true := rfl
theorem mi_184 : false = decide ((mName 184).name = "<init>") := by decide +kernel
theorem mt_184 : mRet 184 = some .int := rfl
theorem mr_184 : bR2 184 = bRI := rfl
theorem mq_184 : mIni 184 = false := by decide +kernel
theorem mc_185 : mCode 185 = cX11_comesTo := rfl
theorem mo_185 : mOwn 185 = 11 := rfl
theorem ma_185 : mArg 185 = 3 := rfl
theorem ms_185 : mSta 185 = false := rfl
theorem mi_185 : false = decide ((mName 185).name = "<init>") := by decide +kernel
theorem mt_185 : mRet 185 = some .int := rfl
theorem mr_185 : bR2 185 = bRI := rfl
theorem mq_185 : mIni 185 = false := by decide +kernel
theorem mc_186 : mCode 186 = cX11_pact := rfl
theorem mo_186 : mOwn 186 = 11 := rfl
theorem ma_186 : mArg 186 = 2 := rfl
theorem ms_186 : mSta 186 = true := rfl
theorem mi_186 : false = decide ((mName 186).name = "<init>") := by decide +kernel
theorem mt_186 : mRet 186 = some .int := rfl
theorem mr_186 : bR2 186 = bRI := rfl
theorem mq_186 : mIni 186 = false := by decide +kernel
theorem mc_187 : mCode 187 = cX11_laysPacts := rfl
theorem mo_187 : mOwn 187 = 11 := rfl
theorem ma_187 : mArg 187 = 1 := rfl
theorem ms_187 : mSta 187 = false := rfl
theorem mi_187 : false = decide ((mName 187).name = "<init>") := by decide +kernel
theorem mt_187 : mRet 187 = none := rfl
theorem mr_187 : bR2 187 = bRV := rfl
theorem mq_187 : mIni 187 = false := by decide +kernel
theorem mc_188 : mCode 188 = cX11_laysNights := rfl
theorem mo_188 : mOwn 188 = 11 := rfl
theorem ma_188 : mArg 188 = 1 := rfl
theorem ms_188 : mSta 188 = false := rfl
theorem mi_188 : false = decide ((mName 188).name = "<init>") := by decide +kernel
theorem mt_188 : mRet 188 = none := rfl
theorem mr_188 : bR2 188 = bRV := rfl
theorem mq_188 : mIni 188 = false := by decide +kernel
theorem mc_189 : mCode 189 = cX11_lays := rfl
theorem mo_189 : mOwn 189 = 11 := rfl
theorem ma_189 : mArg 189 = 1 := rfl
theorem ms_189 : mSta 189 = false := rfl
theorem mi_189 : false = decide ((mName 189).name = "<init>") := by decide +kernel
theorem mt_189 : mRet 189 = none := rfl
theorem mr_189 : bR2 189 = bRV := rfl
theorem mq_189 : mIni 189 = false := by decide +kernel
theorem mc_190 : mCode 190 = cX11_most := rfl
theorem mo_190 : mOwn 190 = 11 := rfl
theorem ma_190 : mArg 190 = 1 := rfl
theorem ms_190 : mSta 190 = false := rfl
theorem mi_190 : false = decide ((mName 190).name = "<init>") := by decide +kernel
theorem mt_190 : mRet 190 = some .int := rfl
theorem mr_190 : bR2 190 = bRI := rfl
theorem mq_190 : mIni 190 = false := by decide +kernel
theorem mc_191 : mCode 191 = cX11_gathers := rfl
theorem mo_191 : mOwn 191 = 11 := rfl
theorem ma_191 : mArg 191 = 1 := rfl
theorem ms_191 : mSta 191 = false := rfl
theorem mi_191 : false = decide ((mName 191).name = "<init>") := by decide +kernel
theorem mt_191 : mRet 191 = none := rfl
theorem mr_191 : bR2 191 = bRV := rfl
theorem mq_191 : mIni 191 = false := by decide +kernel
theorem mc_192 : mCode 192 = cX11_says := rfl
theorem mo_192 : mOwn 192 = 11 := rfl
theorem ma_192 : mArg 192 = 1 := rfl
theorem ms_192 : mSta 192 = false := rfl
theorem mi_192 : false = decide ((mName 192).name = "<init>") := by decide +kernel
theorem mt_192 : mRet 192 = some .boolean := rfl
theorem mr_192 : bR2 192 = bRI := rfl
theorem mq_192 : mIni 192 = false := by decide +kernel
theorem mc_193 : mCode 193 = cX11_ofTest := rfl
theorem mo_193 : mOwn 193 = 11 := rfl
theorem ma_193 : mArg 193 = 2 := rfl
theorem ms_193 : mSta 193 = false := rfl
theorem mi_193 : false = decide ((mName 193).name = "<init>") := by decide +kernel
theorem mt_193 : mRet 193 = some .int := rfl
theorem mr_193 : bR2 193 = bRI := rfl
theorem mq_193 : mIni 193 = false := by decide +kernel
theorem mc_194 : mCode 194 = cX11_decider := rfl
theorem mo_194 : mOwn 194 = 11 := rfl
theorem ma_194 : mArg 194 = 2 := rfl
theorem ms_194 : mSta 194 = false := rfl
theorem mi_194 : false = decide ((mName 194).name = "<init>") := by decide +kernel
theorem mt_194 : mRet 194 = some .int := rfl
theorem mr_194 : bR2 194 = bRI := rfl
theorem mq_194 : mIni 194 = false := by decide +kernel
theorem mc_195 : mCode 195 = cX11_givesWay := rfl
theorem mo_195 : mOwn 195 = 11 := rfl
theorem ma_195 : mArg 195 = 2 := rfl
theorem ms_195 : mSta 195 = false := rfl
theorem mi_195 : false = decide ((mName 195).name = "<init>") := by decide +kernel
theorem mt_195 : mRet 195 = some .boolean := rfl
theorem mr_195 : bR2 195 = bRI := rfl
theorem mq_195 : mIni 195 = false := by decide +kernel
theorem mc_196 : mCode 196 = cX11_firstAhead := rfl
theorem mo_196 : mOwn 196 = 11 := rfl
theorem ma_196 : mArg 196 = 1 := rfl
theorem ms_196 : mSta 196 = false := rfl
theorem mi_196 : false = decide ((mName 196).name = "<init>") := by decide +kernel
theorem mt_196 : mRet 196 = some .int := rfl
theorem mr_196 : bR2 196 = bRI := rfl
theorem mq_196 : mIni 196 = false := by decide +kernel
theorem mc_197 : mCode 197 = cX11_findsHis := rfl
theorem mo_197 : mOwn 197 = 11 := rfl
theorem ma_197 : mArg 197 = 0 := rfl
theorem ms_197 : mSta 197 = false := rfl
theorem mi_197 : false = decide ((mName 197).name = "<init>") := by decide +kernel
theorem mt_197 : mRet 197 = none := rfl
theorem mr_197 : bR2 197 = bRV := rfl
theorem mq_197 : mIni 197 = false := by decide +kernel
theorem mc_198 : mCode 198 = cX11_of := rfl
theorem mo_198 : mOwn 198 = 11 := rfl
theorem ma_198 : mArg 198 = 3 := rfl
theorem ms_198 : mSta 198 = false := rfl
theorem mi_198 : false = decide ((mName 198).name = "<init>") := by decide +kernel
theorem mt_198 : mRet 198 = some .int := rfl
theorem mr_198 : bR2 198 = bRI := rfl
theorem mq_198 : mIni 198 = false := by decide +kernel
theorem mc_199 : mCode 199 = cX11_decides := rfl
theorem mo_199 : mOwn 199 = 11 := rfl
theorem ma_199 : mArg 199 = 3 := rfl
theorem ms_199 : mSta 199 = false := rfl
theorem mi_199 : false = decide ((mName 199).name = "<init>") := by decide +kernel
theorem mt_199 : mRet 199 = some .int := rfl
theorem mr_199 : bR2 199 = bRI := rfl
theorem mq_199 : mIni 199 = false := by decide +kernel
theorem mc_200 : mCode 200 = cX11_taxOf := rfl
theorem mo_200 : mOwn 200 = 11 := rfl
theorem ma_200 : mArg 200 = 2 := rfl
theorem ms_200 : mSta 200 = false := rfl
theorem mi_200 : false = decide ((mName 200).name = "<init>") := by decide +kernel
theorem mt_200 : mRet 200 = some .long := rfl
theorem mr_200 : bR2 200 = bRJ := rfl
theorem mq_200 : mIni 200 = false := by decide +kernel
theorem mc_201 : mCode 201 = cX11_tax := rfl
theorem mo_201 : mOwn 201 = 11 := rfl
theorem ma_201 : mArg 201 = 2 := rfl
theorem ms_201 : mSta 201 = false := rfl
theorem mi_201 : false = decide ((mName 201).name = "<init>") := by decide +kernel
theorem mt_201 : mRet 201 = some .long := rfl
theorem mr_201 : bR2 201 = bRJ := rfl
theorem mq_201 : mIni 201 = false := by decide +kernel
theorem mc_202 : mCode 202 = cX11_reliefWith := rfl
theorem mo_202 : mOwn 202 = 11 := rfl
theorem ma_202 : mArg 202 = 2 := rfl
theorem ms_202 : mSta 202 = false := rfl
theorem mi_202 : false = decide ((mName 202).name = "<init>") := by decide +kernel
theorem mt_202 : mRet 202 = some .int := rfl
theorem mr_202 : bR2 202 = bRI := rfl
theorem mq_202 : mIni 202 = false := by decide +kernel
theorem mc_203 : mCode 203 = cX11_seenAs := rfl
theorem mo_203 : mOwn 203 = 11 := rfl
theorem ma_203 : mArg 203 = 2 := rfl
theorem ms_203 : mSta 203 = false := rfl
theorem mi_203 : false = decide ((mName 203).name = "<init>") := by decide +kernel
theorem mt_203 : mRet 203 = some .int := rfl
theorem mr_203 : bR2 203 = bRI := rfl
theorem mq_203 : mIni 203 = false := by decide +kernel
theorem mc_204 : mCode 204 = cX11_isFreed := rfl
theorem mo_204 : mOwn 204 = 11 := rfl
theorem ma_204 : mArg 204 = 2 := rfl
theorem ms_204 : mSta 204 = false := rfl
theorem mi_204 : false = decide ((mName 204).name = "<init>") := by decide +kernel
theorem mt_204 : mRet 204 = some .boolean := rfl
theorem mr_204 : bR2 204 = bRI := rfl
theorem mq_204 : mIni 204 = false := by decide +kernel
theorem mc_205 : mCode 205 = cX11_rate := rfl
theorem mo_205 : mOwn 205 = 11 := rfl
theorem ma_205 : mArg 205 = 2 := rfl
theorem ms_205 : mSta 205 = false := rfl
theorem mi_205 : false = decide ((mName 205).name = "<init>") := by decide +kernel
theorem mt_205 : mRet 205 = some .int := rfl
theorem mr_205 : bR2 205 = bRI := rfl
theorem mq_205 : mIni 205 = false := by decide +kernel
theorem mc_206 : mCode 206 = cX11_bounded := rfl
theorem mo_206 : mOwn 206 = 11 := rfl
theorem ma_206 : mArg 206 = 3 := rfl
theorem ms_206 : mSta 206 = false := rfl
theorem mi_206 : false = decide ((mName 206).name = "<init>") := by decide +kernel
theorem mt_206 : mRet 206 = some .int := rfl
theorem mr_206 : bR2 206 = bRI := rfl
theorem mq_206 : mIni 206 = false := by decide +kernel
theorem mc_207 : mCode 207 = cX11_ahead := rfl
theorem mo_207 : mOwn 207 = 11 := rfl
theorem ma_207 : mArg 207 = 2 := rfl
theorem ms_207 : mSta 207 = false := rfl
theorem mi_207 : false = decide ((mName 207).name = "<init>") := by decide +kernel
theorem mt_207 : mRet 207 = some .long := rfl
theorem mr_207 : bR2 207 = bRJ := rfl
theorem mq_207 : mIni 207 = false := by decide +kernel
theorem mc_208 : mCode 208 = cX11_isOff := rfl
theorem mo_208 : mOwn 208 = 11 := rfl
theorem ma_208 : mArg 208 = 2 := rfl
theorem ms_208 : mSta 208 = false := rfl
theorem mi_208 : false = decide ((mName 208).name = "<init>") := by decide +kernel
theorem mt_208 : mRet 208 = some .boolean := rfl
theorem mr_208 : bR2 208 = bRI := rfl
theorem mq_208 : mIni 208 = false := by decide +kernel
theorem mc_209 : mCode 209 = cX11_lessOthers := rfl
theorem mo_209 : mOwn 209 = 11 := rfl
theorem ma_209 : mArg 209 = 1 := rfl
theorem ms_209 : mSta 209 = false := rfl
theorem mi_209 : false = decide ((mName 209).name = "<init>") := by decide +kernel
theorem mt_209 : mRet 209 = some .long := rfl
theorem mr_209 : bR2 209 = bRJ := rfl
theorem mq_209 : mIni 209 = false := by decide +kernel
theorem mc_210 : mCode 210 = cX11_swapsRows := rfl
theorem mo_210 : mOwn 210 = 11 := rfl
theorem ma_210 : mArg 210 = 3 := rfl
theorem ms_210 : mSta 210 = false := rfl
theorem mi_210 : false = decide ((mName 210).name = "<init>") := by decide +kernel
theorem mt_210 : mRet 210 = none := rfl
theorem mr_210 : bR2 210 = bRV := rfl
theorem mq_210 : mIni 210 = false := by decide +kernel
theorem mc_211 : mCode 211 = cX11_solves := rfl
theorem mo_211 : mOwn 211 = 11 := rfl
theorem ma_211 : mArg 211 = 1 := rfl
theorem ms_211 : mSta 211 = false := rfl
theorem mi_211 : false = decide ((mName 211).name = "<init>") := by decide +kernel
theorem mt_211 : mRet 211 = some .boolean := rfl
theorem mr_211 : bR2 211 = bRI := rfl
theorem mq_211 : mIni 211 = false := by decide +kernel
theorem mc_212 : mCode 212 = cX11_isAnswer := rfl
theorem mo_212 : mOwn 212 = 11 := rfl
theorem ma_212 : mArg 212 = 1 := rfl
theorem ms_212 : mSta 212 = false := rfl
theorem mi_212 : false = decide ((mName 212).name = "<init>") := by decide +kernel
theorem mt_212 : mRet 212 = some .boolean := rfl
theorem mr_212 : bR2 212 = bRI := rfl
theorem mq_212 : mIni 212 = false := by decide +kernel
theorem mc_213 : mCode 213 = cX11_findsTaken := rfl
theorem mo_213 : mOwn 213 = 11 := rfl
theorem ma_213 : mArg 213 = 1 := rfl
theorem ms_213 : mSta 213 = false := rfl
theorem mi_213 : false = decide ((mName 213).name = "<init>") := by decide +kernel
theorem mt_213 : mRet 213 = some .int := rfl
theorem mr_213 : bR2 213 = bRI := rfl
theorem mq_213 : mIni 213 = false := by decide +kernel
theorem mc_214 : mCode 214 = cX11_takes := rfl
theorem mo_214 : mOwn 214 = 11 := rfl
theorem ma_214 : mArg 214 = 4 := rfl
theorem ms_214 : mSta 214 = false := rfl
theorem mi_214 : false = decide ((mName 214).name = "<init>") := by decide +kernel
theorem mt_214 : mRet 214 = some .long := rfl
theorem mr_214 : bR2 214 = bRJ := rfl
theorem mq_214 : mIni 214 = false := by decide +kernel
theorem mc_215 : mCode 215 = cX11_owesNow := rfl
theorem mo_215 : mOwn 215 = 11 := rfl
theorem ma_215 : mArg 215 = 0 := rfl
theorem ms_215 : mSta 215 = false := rfl
theorem mi_215 : false = decide ((mName 215).name = "<init>") := by decide +kernel
theorem mt_215 : mRet 215 = some .long := rfl
theorem mr_215 : bR2 215 = bRJ := rfl
theorem mq_215 : mIni 215 = false := by decide +kernel
theorem mc_216 : mCode 216 = cX11_owes := rfl
theorem mo_216 : mOwn 216 = 11 := rfl
theorem ma_216 : mArg 216 = 2 := rfl
theorem ms_216 : mSta 216 = false := rfl
theorem mi_216 : false = decide ((mName 216).name = "<init>") := by decide +kernel
theorem mt_216 : mRet 216 = some .long := rfl
theorem mr_216 : bR2 216 = bRJ := rfl
theorem mq_216 : mIni 216 = false := by decide +kernel
theorem mc_217 : mCode 217 = cX11_edge := rfl
theorem mo_217 : mOwn 217 = 11 := rfl
theorem ma_217 : mArg 217 = 4 := rfl
theorem ms_217 : mSta 217 = false := rfl
theorem mi_217 : false = decide ((mName 217).name = "<init>") := by decide +kernel
theorem mt_217 : mRet 217 = some .long := rfl
theorem mr_217 : bR2 217 = bRJ := rfl
theorem mq_217 : mIni 217 = false := by decide +kernel
theorem mc_218 : mCode 218 = cX11_hangs := rfl
theorem mo_218 : mOwn 218 = 11 := rfl
theorem ma_218 : mArg 218 = 2 := rfl
theorem ms_218 : mSta 218 = false := rfl
theorem mi_218 : false = decide ((mName 218).name = "<init>") := by decide +kernel
theorem mt_218 : mRet 218 = some .int := rfl
theorem mr_218 : bR2 218 = bRI := rfl
theorem mq_218 : mIni 218 = false := by decide +kernel
theorem mc_219 : mCode 219 = cX11_move := rfl
theorem mo_219 : mOwn 219 = 11 := rfl
theorem ma_219 : mArg 219 = 2 := rfl
theorem ms_219 : mSta 219 = false := rfl
theorem mi_219 : false = decide ((mName 219).name = "<init>") := by decide +kernel
theorem mt_219 : mRet 219 = some .int := rfl
theorem mr_219 : bR2 219 = bRI := rfl
theorem mq_219 : mIni 219 = false := by decide +kernel
theorem mc_220 : mCode 220 = cX11_owesByMove := rfl
theorem mo_220 : mOwn 220 = 11 := rfl
theorem ma_220 : mArg 220 = 2 := rfl
theorem ms_220 : mSta 220 = false := rfl
theorem mi_220 : false = decide ((mName 220).name = "<init>") := by decide +kernel
theorem mt_220 : mRet 220 = some .long := rfl
theorem mr_220 : bR2 220 = bRJ := rfl
theorem mq_220 : mIni 220 = false := by decide +kernel
theorem mc_221 : mCode 221 = cX11_best := rfl
theorem mo_221 : mOwn 221 = 11 := rfl
theorem ma_221 : mArg 221 = 2 := rfl
theorem ms_221 : mSta 221 = false := rfl
theorem mi_221 : false = decide ((mName 221).name = "<init>") := by decide +kernel
theorem mt_221 : mRet 221 = some .long := rfl
theorem mr_221 : bR2 221 = bRJ := rfl
theorem mq_221 : mIni 221 = false := by decide +kernel
theorem mc_222 : mCode 222 = cX11_turning := rfl
theorem mo_222 : mOwn 222 = 11 := rfl
theorem ma_222 : mArg 222 = 3 := rfl
theorem ms_222 : mSta 222 = false := rfl
theorem mi_222 : false = decide ((mName 222).name = "<init>") := by decide +kernel
theorem mt_222 : mRet 222 = some .int := rfl
theorem mr_222 : bR2 222 = bRI := rfl
theorem mq_222 : mIni 222 = false := by decide +kernel
theorem mc_223 : mCode 223 = cX11_canTurn := rfl
theorem mo_223 : mOwn 223 = 11 := rfl
theorem ma_223 : mArg 223 = 1 := rfl
theorem ms_223 : mSta 223 = false := rfl
theorem mi_223 : false = decide ((mName 223).name = "<init>") := by decide +kernel
theorem mt_223 : mRet 223 = some .boolean := rfl
theorem mr_223 : bR2 223 = bRI := rfl
theorem mq_223 : mIni 223 = false := by decide +kernel
theorem mc_224 : mCode 224 = cX11_owesTurned := rfl
theorem mo_224 : mOwn 224 = 11 := rfl
theorem ma_224 : mArg 224 = 2 := rfl
theorem ms_224 : mSta 224 = false := rfl
theorem mi_224 : false = decide ((mName 224).name = "<init>") := by decide +kernel
theorem mt_224 : mRet 224 = some .long := rfl
theorem mr_224 : bR2 224 = bRJ := rfl
theorem mq_224 : mIni 224 = false := by decide +kernel
theorem mc_225 : mCode 225 = cX11_sly := rfl
theorem mo_225 : mOwn 225 = 11 := rfl
theorem ma_225 : mArg 225 = 1 := rfl
theorem ms_225 : mSta 225 = false := rfl
theorem mi_225 : false = decide ((mName 225).name = "<init>") := by decide +kernel
theorem mt_225 : mRet 225 = some .long := rfl
theorem mr_225 : bR2 225 = bRJ := rfl
theorem mq_225 : mIni 225 = false := by decide +kernel
theorem mc_226 : mCode 226 = cX11_word_ := rfl
theorem mo_226 : mOwn 226 = 11 := rfl
theorem ma_226 : mArg 226 = 4 := rfl
theorem ms_226 : mSta 226 = false := rfl
theorem mi_226 : false = decide ((mName 226).name = "<init>") := by decide +kernel
theorem mt_226 : mRet 226 = some .int := rfl
theorem mr_226 : bR2 226 = bRI := rfl
theorem mq_226 : mIni 226 = false := by decide +kernel
theorem mc_227 : mCode 227 = cX11_closes := rfl
theorem mo_227 : mOwn 227 = 11 := rfl
theorem ma_227 : mArg 227 = 1 := rfl
theorem ms_227 : mSta 227 = false := rfl
theorem mi_227 : false = decide ((mName 227).name = "<init>") := by decide +kernel
theorem mt_227 : mRet 227 = some .boolean := rfl
theorem mr_227 : bR2 227 = bRI := rfl
theorem mq_227 : mIni 227 = false := by decide +kernel
theorem mc_228 : mCode 228 = cX11_mend := rfl
theorem mo_228 : mOwn 228 = 11 := rfl
theorem ma_228 : mArg 228 = 0 := rfl
theorem ms_228 : mSta 228 = false := rfl
theorem mi_228 : false = decide ((mName 228).name = "<init>") := by decide +kernel
theorem mt_228 : mRet 228 = some .int := rfl
theorem mr_228 : bR2 228 = bRI := rfl
theorem mq_228 : mIni 228 = false := by decide +kernel
theorem mc_229 : mCode 229 = cX11_legTakes := rfl
theorem mo_229 : mOwn 229 = 11 := rfl
theorem ma_229 : mArg 229 = 3 := rfl
theorem ms_229 : mSta 229 = false := rfl
theorem mi_229 : false = decide ((mName 229).name = "<init>") := by decide +kernel
theorem mt_229 : mRet 229 = some .int := rfl
theorem mr_229 : bR2 229 = bRI := rfl
theorem mq_229 : mIni 229 = false := by decide +kernel
theorem mc_230 : mCode 230 = cX11_round := rfl
theorem mo_230 : mOwn 230 = 11 := rfl
theorem ma_230 : mArg 230 = 4 := rfl
theorem ms_230 : mSta 230 = false := rfl
theorem mi_230 : false = decide ((mName 230).name = "<init>") := by decide +kernel
theorem mt_230 : mRet 230 = some .int := rfl
theorem mr_230 : bR2 230 = bRI := rfl
theorem mq_230 : mIni 230 = false := by decide +kernel
theorem mc_231 : mCode 231 = cX11_answer := rfl
theorem mo_231 : mOwn 231 = 11 := rfl
theorem ma_231 : mArg 231 = 4 := rfl
theorem ms_231 : mSta 231 = false := rfl
theorem mi_231 : false = decide ((mName 231).name = "<init>") := by decide +kernel
theorem mt_231 : mRet 231 = some .int := rfl
theorem mr_231 : bR2 231 = bRI := rfl
theorem mq_231 : mIni 231 = false := by decide +kernel
theorem mc_232 : mCode 232 = cX11_judged := rfl
theorem mo_232 : mOwn 232 = 11 := rfl
theorem ma_232 : mArg 232 = 0 := rfl
theorem ms_232 : mSta 232 = false := rfl
theorem mi_232 : false = decide ((mName 232).name = "<init>") := by decide +kernel
theorem mt_232 : mRet 232 = some .int := rfl
theorem mr_232 : bR2 232 = bRI := rfl
theorem mq_232 : mIni 232 = false := by decide +kernel
theorem mc_233 : mCode 233 = cX11_look := rfl
theorem mo_233 : mOwn 233 = 11 := rfl
theorem ma_233 : mArg 233 = 1 := rfl
theorem ms_233 : mSta 233 = false := rfl
theorem mi_233 : false = decide ((mName 233).name = "<init>") := by decide +kernel
theorem mt_233 : mRet 233 = some .int := rfl
theorem mr_233 : bR2 233 = bRI := rfl
theorem mq_233 : mIni 233 = false := by decide +kernel
theorem mc_234 : mCode 234 = cJ6_bitCount_0f7a4 := rfl
theorem mo_234 : mOwn 234 = 13 := rfl
theorem ma_234 : mArg 234 = 1 := rfl
theorem ms_234 : mSta 234 = true := rfl
theorem mi_234 : false = decide ((mName 234).name = "<init>") := by decide +kernel
theorem mt_234 : mRet 234 = some .int := rfl
theorem mr_234 : bR2 234 = bRI := rfl
theorem mq_234 : mIni 234 = false := by decide +kernel
theorem mc_235 : mCode 235 = cJ9_abs_0f7a4 := rfl
theorem mo_235 : mOwn 235 = 14 := rfl
theorem ma_235 : mArg 235 = 1 := rfl
theorem ms_235 : mSta 235 = true := rfl
theorem mi_235 : false = decide ((mName 235).name = "<init>") := by decide +kernel
theorem mt_235 : mRet 235 = some .int := rfl
theorem mr_235 : bR2 235 = bRI := rfl
theorem mq_235 : mIni 235 = false := by decide +kernel
theorem mc_236 : mCode 236 = cJ9_max_7cf53 := rfl
theorem mo_236 : mOwn 236 = 14 := rfl
theorem ma_236 : mArg 236 = 2 := rfl
theorem ms_236 : mSta 236 = true := rfl
theorem mi_236 : false = decide ((mName 236).name = "<init>") := by decide +kernel
theorem mt_236 : mRet 236 = some .int := rfl
theorem mr_236 : bR2 236 = bRI := rfl
theorem mq_236 : mIni 236 = false := by decide +kernel
theorem mc_237 : mCode 237 = cJ9_max_f86c9 := rfl
theorem mo_237 : mOwn 237 = 14 := rfl
theorem ma_237 : mArg 237 = 2 := rfl
theorem ms_237 : mSta 237 = true := rfl
theorem mi_237 : false = decide ((mName 237).name = "<init>") := by decide +kernel
theorem mt_237 : mRet 237 = some .long := rfl
theorem mr_237 : bR2 237 = bRJ := rfl
theorem mq_237 : mIni 237 = false := by decide +kernel
theorem mc_238 : mCode 238 = cJ9_min_7cf53 := rfl
theorem mo_238 : mOwn 238 = 14 := rfl
theorem ma_238 : mArg 238 = 2 := rfl
theorem ms_238 : mSta 238 = true := rfl
theorem mi_238 : false = decide ((mName 238).name = "<init>") := by decide +kernel
theorem mt_238 : mRet 238 = some .int := rfl
theorem mr_238 : bR2 238 = bRI := rfl
theorem mq_238 : mIni 238 = false := by decide +kernel
theorem mc_239 : mCode 239 = cJ9_min_f86c9 := rfl
theorem mo_239 : mOwn 239 = 14 := rfl
theorem ma_239 : mArg 239 = 2 := rfl
theorem ms_239 : mSta 239 = true := rfl
theorem mi_239 : false = decide ((mName 239).name = "<init>") := by decide +kernel
theorem mt_239 : mRet 239 = some .long := rfl
theorem mr_239 : bR2 239 = bRJ := rfl
theorem mq_239 : mIni 239 = false := by decide +kernel
theorem mc_240 : mCode 240 = cJ0_length_8abf5 := rfl
theorem mo_240 : mOwn 240 = 15 := rfl
theorem ma_240 : mArg 240 = 0 := rfl
theorem ms_240 : mSta 240 = false := rfl
theorem mi_240 : false = decide ((mName 240).name = "<init>") := by decide +kernel
theorem mt_240 : mRet 240 = some .int := rfl
theorem mr_240 : bR2 240 = bRI := rfl
theorem mq_240 : mIni 240 = false := by decide +kernel
theorem mc_241 : mCode 241 = cJ0_charAt_5068e := rfl
theorem mo_241 : mOwn 241 = 15 := rfl
theorem ma_241 : mArg 241 = 1 := rfl
theorem ms_241 : mSta 241 = false := rfl
theorem mi_241 : false = decide ((mName 241).name = "<init>") := by decide +kernel
theorem mt_241 : mRet 241 = some .char := rfl
theorem mr_241 : bR2 241 = bRI := rfl
theorem mq_241 : mIni 241 = false := by decide +kernel
theorem mc_242 : mCode 242 = cJ0_coder_7d493 := rfl
theorem mo_242 : mOwn 242 = 15 := rfl
theorem ma_242 : mArg 242 = 0 := rfl
theorem ms_242 : mSta 242 = false := rfl
theorem mi_242 : false = decide ((mName 242).name = "<init>") := by decide +kernel
theorem mt_242 : mRet 242 = some .byte := rfl
theorem mr_242 : bR2 242 = bRI := rfl
theorem mq_242 : mIni 242 = false := by decide +kernel
theorem mc_243 : mCode 243 = cJ0_isLatin1_aae02 := rfl
theorem mo_243 : mOwn 243 = 15 := rfl
theorem ma_243 : mArg 243 = 0 := rfl
theorem ms_243 : mSta 243 = false := rfl
theorem mi_243 : false = decide ((mName 243).name = "<init>") := by decide +kernel
theorem mt_243 : mRet 243 = some .boolean := rfl
theorem mr_243 : bR2 243 = bRI := rfl
theorem mq_243 : mIni 243 = false := by decide +kernel
theorem mc_244 : mCode 244 = cJ0_checkIndex_df160 := rfl
theorem mo_244 : mOwn 244 = 15 := rfl
theorem ma_244 : mArg 244 = 2 := rfl
theorem ms_244 : mSta 244 = true := rfl
theorem mi_244 : false = decide ((mName 244).name = "<init>") := by decide +kernel
theorem mt_244 : mRet 244 = none := rfl
theorem mr_244 : bR2 244 = bRV := rfl
theorem mq_244 : mIni 244 = false := by decide +kernel
theorem mc_245 : mCode 245 = cJ1_charAt_3b067 := rfl
theorem mo_245 : mOwn 245 = 16 := rfl
theorem ma_245 : mArg 245 = 2 := rfl
theorem ms_245 : mSta 245 = true := rfl
theorem mi_245 : false = decide ((mName 245).name = "<init>") := by decide +kernel
theorem mt_245 : mRet 245 = some .char := rfl
theorem mr_245 : bR2 245 = bRI := rfl
theorem mq_245 : mIni 245 = false := by decide +kernel
theorem mc_246 : mCode 246 = cJ3_checkIndex_8e157 := rfl
theorem mo_246 : mOwn 246 = 18 := rfl
theorem ma_246 : mArg 246 = 3 := rfl
theorem ms_246 : mSta 246 = true := rfl
theorem mi_246 : false = decide ((mName 246).name = "<init>") := by decide +kernel
theorem mt_246 : mRet 246 = some .int := rfl
theorem mr_246 : bR2 246 = bRI := rfl
theorem mq_246 : mIni 246 = false := by decide +kernel
theorem mc_247 : mCode 247 = code := rfl
theorem mo_247 : mOwn 247 = 12 := rfl
theorem ma_247 : mArg 247 = 1 := rfl
theorem ms_247 : mSta 247 = true := rfl
theorem mi_247 : false = decide ((mName 247).name = "<init>") := by decide +kernel
theorem mt_247 : mRet 247 = some .boolean := rfl
theorem mr_247 : bR2 247 = bRI := rfl
theorem mq_247 : mIni 247 = true := by decide +kernel
theorem ck_2_9 : clkT 2 9 = some (1, 1036) := by decide +kernel
theorem ck_2_17 : clkT 2 17 = some (80, 1038) := by decide +kernel
theorem ck_2_51 : clkT 2 51 = some (6, 1040) := by decide +kernel
theorem ck_6_9 : clkT 6 9 = some (81, 1046) := by decide +kernel
theorem ck_9_15 : clkT 9 15 = some (7, 2218) := by decide +kernel
theorem ck_9_22 : clkT 9 22 = some (8, 2220) := by decide +kernel
theorem ck_10_9 : clkT 10 9 = some (9, 1028) := by decide +kernel
theorem ck_10_15 : clkT 10 15 = some (2, 1030) := by decide +kernel
theorem ck_10_27 : clkT 10 27 = some (3, 1174) := by decide +kernel
theorem ck_10_36 : clkT 10 36 = some (4, 1176) := by decide +kernel
theorem ck_10_43 : clkT 10 43 = some (0, 1224) := by decide +kernel
theorem ck_10_54 : clkT 10 54 = some (5, 2010) := by decide +kernel
theorem ck_10_61 : clkT 10 61 = some (7, 2114) := by decide +kernel
theorem ck_10_68 : clkT 10 68 = some (8, 2143) := by decide +kernel
theorem ck_10_75 : clkT 10 75 = some (1, 2171) := by decide +kernel
theorem ck_12_7 : clkT 12 7 = some (10, 1020) := by decide +kernel
theorem ck_12_10 : clkT 12 10 = some (11, 5122) := by decide +kernel
theorem cl_4_36 : cslT 4 36 = some (100, 5056) := by decide +kernel
theorem cl_6_36 : cslT 6 36 = some ((-1), 4199) := by decide +kernel
theorem cl_10_195 : cslT 10 195 = some ((-1), 4127) := by decide +kernel
theorem cl_10_249 : cslT 10 249 = some ((-1000000000000), 5011) := by decide +kernel
theorem cl_11_474 : cslT 11 474 = some ((-1), 7175) := by decide +kernel
theorem cl_11_528 : cslT 11 528 = some ((-1000000000000), 8000) := by decide +kernel
theorem cl_11_539 : cslT 11 539 = some (100, 8029) := by decide +kernel
theorem cl_12_115 : cslT 12 115 = some (4294967295, 8072) := by decide +kernel
theorem cs_10_115 : cstT 10 115 = some (999999, 3080) := by decide +kernel
theorem cs_10_194 : cstT 10 194 = some (99999999, 4126) := by decide +kernel
theorem cs_11_214 : cstT 11 214 = some (999999, 6186) := by decide +kernel
theorem cs_11_469 : cstT 11 469 = some (99999999, 7170) := by decide +kernel
theorem cs_13_265 : cstT 13 265 = some (1431655765, 5068) := by decide +kernel
theorem cs_13_266 : cstT 13 266 = some (858993459, 5069) := by decide +kernel
theorem cs_13_267 : cstT 13 267 = some (252645135, 5070) := by decide +kernel
theorem ff_0_9 : fldT 0 9 = some (0, 0, 1230) := by decide +kernel
theorem fs_0_9 : stfT 0 9 = none := by decide +kernel
theorem ff_0_15 : fldT 0 15 = some (0, 1, 1232) := by decide +kernel
theorem fs_0_15 : stfT 0 15 = none := by decide +kernel
theorem ff_0_18 : fldT 0 18 = some (0, 2, 1234) := by decide +kernel
theorem fs_0_18 : stfT 0 18 = none := by decide +kernel
theorem ff_0_21 : fldT 0 21 = some (0, 3, 1236) := by decide +kernel
theorem fs_0_21 : stfT 0 21 = none := by decide +kernel
theorem ff_1_9 : fldT 1 9 = some (1, 0, 1068) := by decide +kernel
theorem fs_1_9 : stfT 1 9 = none := by decide +kernel
theorem ff_1_15 : fldT 1 15 = some (1, 1, 1069) := by decide +kernel
theorem fs_1_15 : stfT 1 15 = none := by decide +kernel
theorem ff_1_18 : fldT 1 18 = some (1, 2, 1070) := by decide +kernel
theorem fs_1_18 : stfT 1 18 = none := by decide +kernel
theorem ff_1_21 : fldT 1 21 = some (1, 3, 1071) := by decide +kernel
theorem fs_1_21 : stfT 1 21 = none := by decide +kernel
theorem ff_1_24 : fldT 1 24 = some (1, 4, 1072) := by decide +kernel
theorem fs_1_24 : stfT 1 24 = none := by decide +kernel
theorem ff_1_27 : fldT 1 27 = some (1, 5, 1073) := by decide +kernel
theorem fs_1_27 : stfT 1 27 = none := by decide +kernel
theorem ff_1_30 : fldT 1 30 = some (1, 6, 1075) := by decide +kernel
theorem fs_1_30 : stfT 1 30 = none := by decide +kernel
theorem ff_1_33 : fldT 1 33 = some (1, 7, 1076) := by decide +kernel
theorem fs_1_33 : stfT 1 33 = none := by decide +kernel
theorem ff_1_37 : fldT 1 37 = some (1, 8, 1078) := by decide +kernel
theorem fs_1_37 : stfT 1 37 = none := by decide +kernel
theorem ff_1_40 : fldT 1 40 = some (1, 9, 1079) := by decide +kernel
theorem fs_1_40 : stfT 1 40 = none := by decide +kernel
theorem ff_1_43 : fldT 1 43 = some (1, 10, 1081) := by decide +kernel
theorem fs_1_43 : stfT 1 43 = none := by decide +kernel
theorem ff_1_46 : fldT 1 46 = some (1, 11, 1083) := by decide +kernel
theorem fs_1_46 : stfT 1 46 = none := by decide +kernel
theorem ff_2_11 : fldT 2 11 = some (2, 0, 1111) := by decide +kernel
theorem fs_2_11 : stfT 2 11 = none := by decide +kernel
theorem ff_2_19 : fldT 2 19 = some (2, 1, 1113) := by decide +kernel
theorem fs_2_19 : stfT 2 19 = none := by decide +kernel
theorem ff_2_22 : fldT 2 22 = some (2, 2, 1115) := by decide +kernel
theorem fs_2_22 : stfT 2 22 = none := by decide +kernel
theorem ff_2_26 : fldT 2 26 = some (2, 3, 1116) := by decide +kernel
theorem fs_2_26 : stfT 2 26 = none := by decide +kernel
theorem ff_2_29 : fldT 2 29 = some (2, 4, 1117) := by decide +kernel
theorem fs_2_29 : stfT 2 29 = none := by decide +kernel
theorem ff_2_32 : fldT 2 32 = some (2, 5, 1119) := by decide +kernel
theorem fs_2_32 : stfT 2 32 = none := by decide +kernel
theorem ff_2_35 : fldT 2 35 = some (2, 6, 1120) := by decide +kernel
theorem fs_2_35 : stfT 2 35 = none := by decide +kernel
theorem ff_2_38 : fldT 2 38 = some (2, 7, 1121) := by decide +kernel
theorem fs_2_38 : stfT 2 38 = none := by decide +kernel
theorem ff_2_42 : fldT 2 42 = some (2, 8, 1122) := by decide +kernel
theorem fs_2_42 : stfT 2 42 = none := by decide +kernel
theorem ff_2_45 : fldT 2 45 = some (2, 9, 1124) := by decide +kernel
theorem fs_2_45 : stfT 2 45 = none := by decide +kernel
theorem ff_2_48 : fldT 2 48 = some (2, 10, 1126) := by decide +kernel
theorem fs_2_48 : stfT 2 48 = none := by decide +kernel
theorem ff_2_54 : fldT 2 54 = some (2, 11, 1127) := by decide +kernel
theorem fs_2_54 : stfT 2 54 = none := by decide +kernel
theorem ff_2_69 : fldT 2 69 = some (2, 13, 1129) := by decide +kernel
theorem fs_2_69 : stfT 2 69 = none := by decide +kernel
theorem ff_2_73 : fldT 2 73 = some (2, 14, 1130) := by decide +kernel
theorem fs_2_73 : stfT 2 73 = none := by decide +kernel
theorem ff_2_89 : fldT 2 89 = some (2, 15, 1132) := by decide +kernel
theorem fs_2_89 : stfT 2 89 = none := by decide +kernel
theorem ff_2_108 : fldT 2 108 = some (3, 0, 2183) := by decide +kernel
theorem fs_2_108 : stfT 2 108 = none := by decide +kernel
theorem ff_2_113 : fldT 2 113 = some (3, 2, 2187) := by decide +kernel
theorem fs_2_113 : stfT 2 113 = none := by decide +kernel
theorem ff_2_116 : fldT 2 116 = some (2, 12, 1128) := by decide +kernel
theorem fs_2_116 : stfT 2 116 = none := by decide +kernel
theorem ff_2_120 : fldT 2 120 = some (2, 16, 1134) := by decide +kernel
theorem fs_2_120 : stfT 2 120 = none := by decide +kernel
theorem ff_2_127 : fldT 2 127 = some (3, 6, 2196) := by decide +kernel
theorem fs_2_127 : stfT 2 127 = none := by decide +kernel
theorem ff_2_131 : fldT 2 131 = some (3, 5, 2193) := by decide +kernel
theorem fs_2_131 : stfT 2 131 = none := by decide +kernel
theorem ff_2_134 : fldT 2 134 = some (1, 11, 1084) := by decide +kernel
theorem fs_2_134 : stfT 2 134 = none := by decide +kernel
theorem ff_2_135 : fldT 2 135 = some (8, 1, 2152) := by decide +kernel
theorem fs_2_135 : stfT 2 135 = none := by decide +kernel
theorem ff_2_140 : fldT 2 140 = some (8, 0, 2150) := by decide +kernel
theorem fs_2_140 : stfT 2 140 = none := by decide +kernel
theorem ff_2_143 : fldT 2 143 = some (8, 3, 2157) := by decide +kernel
theorem fs_2_143 : stfT 2 143 = none := by decide +kernel
theorem ff_2_146 : fldT 2 146 = some (9, 3, 2231) := by decide +kernel
theorem fs_2_146 : stfT 2 146 = none := by decide +kernel
theorem ff_2_151 : fldT 2 151 = some (9, 2, 2228) := by decide +kernel
theorem fs_2_151 : stfT 2 151 = none := by decide +kernel
theorem ff_2_163 : fldT 2 163 = some (8, 2, 2155) := by decide +kernel
theorem fs_2_163 : stfT 2 163 = none := by decide +kernel
theorem ff_2_185 : fldT 2 185 = some (8, 4, 2159) := by decide +kernel
theorem fs_2_185 : stfT 2 185 = none := by decide +kernel
theorem ff_2_201 : fldT 2 201 = some (2, 17, 1135) := by decide +kernel
theorem fs_2_201 : stfT 2 201 = none := by decide +kernel
theorem ff_3_9 : fldT 3 9 = some (3, 0, 2182) := by decide +kernel
theorem fs_3_9 : stfT 3 9 = none := by decide +kernel
theorem ff_3_15 : fldT 3 15 = some (3, 1, 2184) := by decide +kernel
theorem fs_3_15 : stfT 3 15 = none := by decide +kernel
theorem ff_3_21 : fldT 3 21 = some (3, 2, 2186) := by decide +kernel
theorem fs_3_21 : stfT 3 21 = none := by decide +kernel
theorem ff_3_25 : fldT 3 25 = some (3, 3, 2188) := by decide +kernel
theorem fs_3_25 : stfT 3 25 = none := by decide +kernel
theorem ff_3_28 : fldT 3 28 = some (3, 4, 2190) := by decide +kernel
theorem fs_3_28 : stfT 3 28 = none := by decide +kernel
theorem ff_3_31 : fldT 3 31 = some (3, 5, 2192) := by decide +kernel
theorem fs_3_31 : stfT 3 31 = none := by decide +kernel
theorem ff_3_34 : fldT 3 34 = some (3, 6, 2195) := by decide +kernel
theorem fs_3_34 : stfT 3 34 = none := by decide +kernel
theorem ff_4_9 : fldT 4 9 = some (4, 0, 1182) := by decide +kernel
theorem fs_4_9 : stfT 4 9 = none := by decide +kernel
theorem ff_4_15 : fldT 4 15 = some (4, 1, 1184) := by decide +kernel
theorem fs_4_15 : stfT 4 15 = none := by decide +kernel
theorem ff_4_18 : fldT 4 18 = some (4, 2, 1186) := by decide +kernel
theorem fs_4_18 : stfT 4 18 = none := by decide +kernel
theorem ff_4_21 : fldT 4 21 = some (4, 3, 1188) := by decide +kernel
theorem fs_4_21 : stfT 4 21 = none := by decide +kernel
theorem ff_4_24 : fldT 4 24 = some (4, 4, 1190) := by decide +kernel
theorem fs_4_24 : stfT 4 24 = none := by decide +kernel
theorem ff_4_27 : fldT 4 27 = some (4, 5, 1192) := by decide +kernel
theorem fs_4_27 : stfT 4 27 = none := by decide +kernel
theorem ff_4_30 : fldT 4 30 = some (4, 6, 1194) := by decide +kernel
theorem fs_4_30 : stfT 4 30 = none := by decide +kernel
theorem ff_4_33 : fldT 4 33 = some (4, 7, 1196) := by decide +kernel
theorem fs_4_33 : stfT 4 33 = none := by decide +kernel
theorem ff_5_9 : fldT 5 9 = some (5, 0, 2065) := by decide +kernel
theorem fs_5_9 : stfT 5 9 = none := by decide +kernel
theorem ff_5_15 : fldT 5 15 = some (5, 1, 2066) := by decide +kernel
theorem fs_5_15 : stfT 5 15 = none := by decide +kernel
theorem ff_5_19 : fldT 5 19 = some (5, 2, 2067) := by decide +kernel
theorem fs_5_19 : stfT 5 19 = none := by decide +kernel
theorem ff_5_22 : fldT 5 22 = some (5, 3, 2068) := by decide +kernel
theorem fs_5_22 : stfT 5 22 = none := by decide +kernel
theorem ff_5_25 : fldT 5 25 = some (5, 4, 2069) := by decide +kernel
theorem fs_5_25 : stfT 5 25 = none := by decide +kernel
theorem ff_5_28 : fldT 5 28 = some (5, 12, 2078) := by decide +kernel
theorem fs_5_28 : stfT 5 28 = none := by decide +kernel
theorem ff_5_44 : fldT 5 44 = some (5, 11, 2076) := by decide +kernel
theorem fs_5_44 : stfT 5 44 = none := by decide +kernel
theorem ff_5_47 : fldT 5 47 = some (5, 8, 2073) := by decide +kernel
theorem fs_5_47 : stfT 5 47 = none := by decide +kernel
theorem ff_5_50 : fldT 5 50 = some (5, 13, 2080) := by decide +kernel
theorem fs_5_50 : stfT 5 50 = none := by decide +kernel
theorem ff_5_54 : fldT 5 54 = some (5, 14, 2081) := by decide +kernel
theorem fs_5_54 : stfT 5 54 = none := by decide +kernel
theorem ff_5_57 : fldT 5 57 = some (5, 5, 2070) := by decide +kernel
theorem fs_5_57 : stfT 5 57 = none := by decide +kernel
theorem ff_5_80 : fldT 5 80 = some (5, 6, 2071) := by decide +kernel
theorem fs_5_80 : stfT 5 80 = none := by decide +kernel
theorem ff_5_109 : fldT 5 109 = some (1, 7, 1077) := by decide +kernel
theorem fs_5_109 : stfT 5 109 = none := by decide +kernel
theorem ff_5_125 : fldT 5 125 = some (1, 10, 1082) := by decide +kernel
theorem fs_5_125 : stfT 5 125 = none := by decide +kernel
theorem ff_5_128 : fldT 5 128 = some (1, 9, 1080) := by decide +kernel
theorem fs_5_128 : stfT 5 128 = none := by decide +kernel
theorem ff_5_131 : fldT 5 131 = some (1, 5, 1074) := by decide +kernel
theorem fs_5_131 : stfT 5 131 = none := by decide +kernel
theorem ff_5_145 : fldT 5 145 = some (1, 11, 1085) := by decide +kernel
theorem fs_5_145 : stfT 5 145 = none := by decide +kernel
theorem ff_5_148 : fldT 5 148 = some (3, 5, 2194) := by decide +kernel
theorem fs_5_148 : stfT 5 148 = none := by decide +kernel
theorem ff_5_149 : fldT 5 149 = some (3, 6, 2197) := by decide +kernel
theorem fs_5_149 : stfT 5 149 = none := by decide +kernel
theorem ff_5_168 : fldT 5 168 = some (3, 3, 2189) := by decide +kernel
theorem fs_5_168 : stfT 5 168 = none := by decide +kernel
theorem ff_5_174 : fldT 5 174 = some (3, 4, 2191) := by decide +kernel
theorem fs_5_174 : stfT 5 174 = none := by decide +kernel
theorem ff_5_177 : fldT 5 177 = some (3, 1, 2185) := by decide +kernel
theorem fs_5_177 : stfT 5 177 = none := by decide +kernel
theorem ff_5_180 : fldT 5 180 = some (5, 9, 2074) := by decide +kernel
theorem fs_5_180 : stfT 5 180 = none := by decide +kernel
theorem ff_5_183 : fldT 5 183 = some (5, 10, 2075) := by decide +kernel
theorem fs_5_183 : stfT 5 183 = none := by decide +kernel
theorem ff_5_186 : fldT 5 186 = some (5, 7, 2072) := by decide +kernel
theorem fs_5_186 : stfT 5 186 = none := by decide +kernel
theorem ff_6_11 : fldT 6 11 = some (6, 0, 1048) := by decide +kernel
theorem fs_6_11 : stfT 6 11 = none := by decide +kernel
theorem ff_6_16 : fldT 6 16 = some (6, 1, 1049) := by decide +kernel
theorem fs_6_16 : stfT 6 16 = none := by decide +kernel
theorem ff_6_20 : fldT 6 20 = some (6, 2, 1050) := by decide +kernel
theorem fs_6_20 : stfT 6 20 = none := by decide +kernel
theorem ff_6_24 : fldT 6 24 = some (6, 3, 1051) := by decide +kernel
theorem fs_6_24 : stfT 6 24 = none := by decide +kernel
theorem ff_7_9 : fldT 7 9 = some (7, 0, 2120) := by decide +kernel
theorem fs_7_9 : stfT 7 9 = none := by decide +kernel
theorem ff_7_15 : fldT 7 15 = some (7, 3, 2128) := by decide +kernel
theorem fs_7_15 : stfT 7 15 = none := by decide +kernel
theorem ff_7_19 : fldT 7 19 = some (7, 4, 2130) := by decide +kernel
theorem fs_7_19 : stfT 7 19 = none := by decide +kernel
theorem ff_7_28 : fldT 7 28 = some (7, 1, 2123) := by decide +kernel
theorem fs_7_28 : stfT 7 28 = none := by decide +kernel
theorem ff_7_31 : fldT 7 31 = some (7, 2, 2125) := by decide +kernel
theorem fs_7_31 : stfT 7 31 = none := by decide +kernel
theorem ff_9_9 : fldT 9 9 = some (9, 0, 2223) := by decide +kernel
theorem fs_9_9 : stfT 9 9 = none := by decide +kernel
theorem ff_9_18 : fldT 9 18 = some (9, 1, 2224) := by decide +kernel
theorem fs_9_18 : stfT 9 18 = none := by decide +kernel
theorem ff_9_24 : fldT 9 24 = some (9, 2, 2226) := by decide +kernel
theorem fs_9_24 : stfT 9 24 = none := by decide +kernel
theorem ff_9_28 : fldT 9 28 = some (7, 1, 2122) := by decide +kernel
theorem fs_9_28 : stfT 9 28 = none := by decide +kernel
theorem ff_9_33 : fldT 9 33 = some (9, 3, 2229) := by decide +kernel
theorem fs_9_33 : stfT 9 33 = none := by decide +kernel
theorem ff_9_50 : fldT 9 50 = some (7, 2, 2127) := by decide +kernel
theorem fs_9_50 : stfT 9 50 = none := by decide +kernel
theorem ff_9_53 : fldT 9 53 = some (8, 2, 2153) := by decide +kernel
theorem fs_9_53 : stfT 9 53 = none := by decide +kernel
theorem ff_10_11 : fldT 10 11 = some (10, 0, 3001) := by decide +kernel
theorem fs_10_11 : stfT 10 11 = none := by decide +kernel
theorem ff_10_18 : fldT 10 18 = some (10, 8, 3002) := by decide +kernel
theorem fs_10_18 : stfT 10 18 = none := by decide +kernel
theorem ff_10_22 : fldT 10 22 = some (2, 0, 1112) := by decide +kernel
theorem fs_10_22 : stfT 10 22 = none := by decide +kernel
theorem ff_10_26 : fldT 10 26 = some (10, 1, 3003) := by decide +kernel
theorem fs_10_26 : stfT 10 26 = none := by decide +kernel
theorem ff_10_29 : fldT 10 29 = some (10, 2, 3004) := by decide +kernel
theorem fs_10_29 : stfT 10 29 = none := by decide +kernel
theorem ff_10_33 : fldT 10 33 = some (10, 3, 3005) := by decide +kernel
theorem fs_10_33 : stfT 10 33 = none := by decide +kernel
theorem ff_10_39 : fldT 10 39 = some (10, 4, 3006) := by decide +kernel
theorem fs_10_39 : stfT 10 39 = none := by decide +kernel
theorem ff_10_46 : fldT 10 46 = some (10, 5, 3007) := by decide +kernel
theorem fs_10_46 : stfT 10 46 = none := by decide +kernel
theorem ff_10_50 : fldT 10 50 = some (10, 6, 3008) := by decide +kernel
theorem fs_10_50 : stfT 10 50 = none := by decide +kernel
theorem ff_10_57 : fldT 10 57 = some (10, 7, 3009) := by decide +kernel
theorem fs_10_57 : stfT 10 57 = none := by decide +kernel
theorem ff_10_64 : fldT 10 64 = some (10, 9, 3010) := by decide +kernel
theorem fs_10_64 : stfT 10 64 = none := by decide +kernel
theorem ff_10_71 : fldT 10 71 = some (10, 10, 3011) := by decide +kernel
theorem fs_10_71 : stfT 10 71 = none := by decide +kernel
theorem ff_10_78 : fldT 10 78 = some (10, 11, 3012) := by decide +kernel
theorem fs_10_78 : stfT 10 78 = none := by decide +kernel
theorem ff_10_83 : fldT 10 83 = some (10, 12, 3013) := by decide +kernel
theorem fs_10_83 : stfT 10 83 = none := by decide +kernel
theorem ff_10_102 : fldT 10 102 = some (9, 1, 2225) := by decide +kernel
theorem fs_10_102 : stfT 10 102 = none := by decide +kernel
theorem ff_10_105 : fldT 10 105 = some (7, 2, 2126) := by decide +kernel
theorem fs_10_105 : stfT 10 105 = none := by decide +kernel
theorem ff_10_109 : fldT 10 109 = some (7, 3, 2129) := by decide +kernel
theorem fs_10_109 : stfT 10 109 = none := by decide +kernel
theorem ff_10_112 : fldT 10 112 = some (7, 4, 2131) := by decide +kernel
theorem fs_10_112 : stfT 10 112 = none := by decide +kernel
theorem ff_10_116 : fldT 10 116 = some (9, 3, 2230) := by decide +kernel
theorem fs_10_116 : stfT 10 116 = none := by decide +kernel
theorem ff_10_119 : fldT 10 119 = some (9, 2, 2227) := by decide +kernel
theorem fs_10_119 : stfT 10 119 = none := by decide +kernel
theorem ff_10_123 : fldT 10 123 = some (8, 0, 2149) := by decide +kernel
theorem fs_10_123 : stfT 10 123 = none := by decide +kernel
theorem ff_10_126 : fldT 10 126 = some (8, 1, 2151) := by decide +kernel
theorem fs_10_126 : stfT 10 126 = none := by decide +kernel
theorem ff_10_129 : fldT 10 129 = some (8, 2, 2154) := by decide +kernel
theorem fs_10_129 : stfT 10 129 = none := by decide +kernel
theorem ff_10_132 : fldT 10 132 = some (8, 3, 2156) := by decide +kernel
theorem fs_10_132 : stfT 10 132 = none := by decide +kernel
theorem ff_10_135 : fldT 10 135 = some (8, 4, 2158) := by decide +kernel
theorem fs_10_135 : stfT 10 135 = none := by decide +kernel
theorem ff_10_138 : fldT 10 138 = some (10, 13, 3014) := by decide +kernel
theorem fs_10_138 : stfT 10 138 = none := by decide +kernel
theorem ff_10_160 : fldT 10 160 = some (5, 11, 2077) := by decide +kernel
theorem fs_10_160 : stfT 10 160 = none := by decide +kernel
theorem ff_10_163 : fldT 10 163 = some (5, 12, 2079) := by decide +kernel
theorem fs_10_163 : stfT 10 163 = none := by decide +kernel
theorem ff_10_169 : fldT 10 169 = some (2, 1, 1114) := by decide +kernel
theorem fs_10_169 : stfT 10 169 = none := by decide +kernel
theorem ff_10_173 : fldT 10 173 = some (2, 14, 1131) := by decide +kernel
theorem fs_10_173 : stfT 10 173 = none := by decide +kernel
theorem ff_10_180 : fldT 10 180 = some (2, 15, 1133) := by decide +kernel
theorem fs_10_180 : stfT 10 180 = none := by decide +kernel
theorem ff_10_183 : fldT 10 183 = some (2, 4, 1118) := by decide +kernel
theorem fs_10_183 : stfT 10 183 = none := by decide +kernel
theorem ff_10_216 : fldT 10 216 = some (2, 17, 1136) := by decide +kernel
theorem fs_10_216 : stfT 10 216 = none := by decide +kernel
theorem ff_10_219 : fldT 10 219 = some (2, 8, 1123) := by decide +kernel
theorem fs_10_219 : stfT 10 219 = none := by decide +kernel
theorem ff_10_223 : fldT 10 223 = some (2, 9, 1125) := by decide +kernel
theorem fs_10_223 : stfT 10 223 = none := by decide +kernel
theorem ff_10_230 : fldT 10 230 = some (7, 1, 2124) := by decide +kernel
theorem fs_10_230 : stfT 10 230 = none := by decide +kernel
theorem ff_10_270 : fldT 10 270 = some (7, 0, 2121) := by decide +kernel
theorem fs_10_270 : stfT 10 270 = none := by decide +kernel
theorem ff_10_280 : fldT 10 280 = some (4, 8, 1198) := by decide +kernel
theorem fs_10_280 : stfT 10 280 = none := by decide +kernel
theorem ff_10_283 : fldT 10 283 = some (4, 0, 1183) := by decide +kernel
theorem fs_10_283 : stfT 10 283 = none := by decide +kernel
theorem ff_10_286 : fldT 10 286 = some (4, 1, 1185) := by decide +kernel
theorem fs_10_286 : stfT 10 286 = none := by decide +kernel
theorem ff_10_297 : fldT 10 297 = some (4, 9, 1199) := by decide +kernel
theorem fs_10_297 : stfT 10 297 = none := by decide +kernel
theorem ff_10_300 : fldT 10 300 = some (4, 2, 1187) := by decide +kernel
theorem fs_10_300 : stfT 10 300 = none := by decide +kernel
theorem ff_10_303 : fldT 10 303 = some (4, 3, 1189) := by decide +kernel
theorem fs_10_303 : stfT 10 303 = none := by decide +kernel
theorem ff_10_306 : fldT 10 306 = some (4, 4, 1191) := by decide +kernel
theorem fs_10_306 : stfT 10 306 = none := by decide +kernel
theorem ff_10_317 : fldT 10 317 = some (4, 10, 1200) := by decide +kernel
theorem fs_10_317 : stfT 10 317 = none := by decide +kernel
theorem ff_10_320 : fldT 10 320 = some (4, 5, 1193) := by decide +kernel
theorem fs_10_320 : stfT 10 320 = none := by decide +kernel
theorem ff_10_323 : fldT 10 323 = some (4, 6, 1195) := by decide +kernel
theorem fs_10_323 : stfT 10 323 = none := by decide +kernel
theorem ff_10_326 : fldT 10 326 = some (4, 7, 1197) := by decide +kernel
theorem fs_10_326 : stfT 10 326 = none := by decide +kernel
theorem ff_10_367 : fldT 10 367 = some (0, 4, 1238) := by decide +kernel
theorem fs_10_367 : stfT 10 367 = none := by decide +kernel
theorem ff_10_368 : fldT 10 368 = some (0, 0, 1231) := by decide +kernel
theorem fs_10_368 : stfT 10 368 = none := by decide +kernel
theorem ff_10_371 : fldT 10 371 = some (0, 1, 1233) := by decide +kernel
theorem fs_10_371 : stfT 10 371 = none := by decide +kernel
theorem ff_10_374 : fldT 10 374 = some (0, 2, 1235) := by decide +kernel
theorem fs_10_374 : stfT 10 374 = none := by decide +kernel
theorem ff_10_377 : fldT 10 377 = some (0, 3, 1237) := by decide +kernel
theorem fs_10_377 : stfT 10 377 = none := by decide +kernel
theorem ff_11_13 : fldT 11 13 = some (11, 0, 5132) := by decide +kernel
theorem fs_11_13 : stfT 11 13 = none := by decide +kernel
theorem ff_11_17 : fldT 11 17 = some (11, 1, 5133) := by decide +kernel
theorem fs_11_17 : stfT 11 17 = none := by decide +kernel
theorem ff_11_20 : fldT 11 20 = some (11, 2, 5134) := by decide +kernel
theorem fs_11_20 : stfT 11 20 = none := by decide +kernel
theorem ff_11_23 : fldT 11 23 = some (11, 3, 5135) := by decide +kernel
theorem fs_11_23 : stfT 11 23 = none := by decide +kernel
theorem ff_11_26 : fldT 11 26 = some (11, 4, 5136) := by decide +kernel
theorem fs_11_26 : stfT 11 26 = none := by decide +kernel
theorem ff_11_29 : fldT 11 29 = some (11, 5, 5137) := by decide +kernel
theorem fs_11_29 : stfT 11 29 = none := by decide +kernel
theorem ff_11_32 : fldT 11 32 = some (11, 6, 5138) := by decide +kernel
theorem fs_11_32 : stfT 11 32 = none := by decide +kernel
theorem ff_11_35 : fldT 11 35 = some (11, 7, 5139) := by decide +kernel
theorem fs_11_35 : stfT 11 35 = none := by decide +kernel
theorem ff_11_38 : fldT 11 38 = some (11, 8, 5140) := by decide +kernel
theorem fs_11_38 : stfT 11 38 = none := by decide +kernel
theorem ff_11_41 : fldT 11 41 = some (11, 9, 5141) := by decide +kernel
theorem fs_11_41 : stfT 11 41 = none := by decide +kernel
theorem ff_11_44 : fldT 11 44 = some (11, 10, 5142) := by decide +kernel
theorem fs_11_44 : stfT 11 44 = none := by decide +kernel
theorem ff_11_47 : fldT 11 47 = some (11, 11, 5143) := by decide +kernel
theorem fs_11_47 : stfT 11 47 = none := by decide +kernel
theorem ff_11_50 : fldT 11 50 = some (11, 12, 5144) := by decide +kernel
theorem fs_11_50 : stfT 11 50 = none := by decide +kernel
theorem ff_11_53 : fldT 11 53 = some (11, 13, 5145) := by decide +kernel
theorem fs_11_53 : stfT 11 53 = none := by decide +kernel
theorem ff_11_56 : fldT 11 56 = some (11, 14, 5146) := by decide +kernel
theorem fs_11_56 : stfT 11 56 = none := by decide +kernel
theorem ff_11_59 : fldT 11 59 = some (11, 15, 5147) := by decide +kernel
theorem fs_11_59 : stfT 11 59 = none := by decide +kernel
theorem ff_11_62 : fldT 11 62 = some (11, 16, 5148) := by decide +kernel
theorem fs_11_62 : stfT 11 62 = none := by decide +kernel
theorem ff_11_65 : fldT 11 65 = some (11, 17, 5149) := by decide +kernel
theorem fs_11_65 : stfT 11 65 = none := by decide +kernel
theorem ff_11_68 : fldT 11 68 = some (11, 18, 5150) := by decide +kernel
theorem fs_11_68 : stfT 11 68 = none := by decide +kernel
theorem ff_11_71 : fldT 11 71 = some (11, 19, 5151) := by decide +kernel
theorem fs_11_71 : stfT 11 71 = none := by decide +kernel
theorem ff_11_74 : fldT 11 74 = some (11, 20, 5152) := by decide +kernel
theorem fs_11_74 : stfT 11 74 = none := by decide +kernel
theorem ff_11_77 : fldT 11 77 = some (11, 21, 5153) := by decide +kernel
theorem fs_11_77 : stfT 11 77 = none := by decide +kernel
theorem ff_11_81 : fldT 11 81 = some (11, 22, 5154) := by decide +kernel
theorem fs_11_81 : stfT 11 81 = none := by decide +kernel
theorem ff_11_84 : fldT 11 84 = some (11, 23, 5155) := by decide +kernel
theorem fs_11_84 : stfT 11 84 = none := by decide +kernel
theorem ff_11_87 : fldT 11 87 = some (11, 24, 5156) := by decide +kernel
theorem fs_11_87 : stfT 11 87 = none := by decide +kernel
theorem ff_11_90 : fldT 11 90 = some (11, 25, 5157) := by decide +kernel
theorem fs_11_90 : stfT 11 90 = none := by decide +kernel
theorem ff_11_93 : fldT 11 93 = some (11, 26, 5158) := by decide +kernel
theorem fs_11_93 : stfT 11 93 = none := by decide +kernel
theorem ff_11_96 : fldT 11 96 = some (11, 27, 5159) := by decide +kernel
theorem fs_11_96 : stfT 11 96 = none := by decide +kernel
theorem ff_11_99 : fldT 11 99 = some (11, 28, 5160) := by decide +kernel
theorem fs_11_99 : stfT 11 99 = none := by decide +kernel
theorem ff_11_102 : fldT 11 102 = some (11, 29, 5161) := by decide +kernel
theorem fs_11_102 : stfT 11 102 = none := by decide +kernel
theorem ff_11_105 : fldT 11 105 = some (11, 30, 5162) := by decide +kernel
theorem fs_11_105 : stfT 11 105 = none := by decide +kernel
theorem ff_11_108 : fldT 11 108 = some (11, 31, 5163) := by decide +kernel
theorem fs_11_108 : stfT 11 108 = none := by decide +kernel
theorem ff_11_111 : fldT 11 111 = some (11, 32, 5164) := by decide +kernel
theorem fs_11_111 : stfT 11 111 = none := by decide +kernel
theorem ff_11_114 : fldT 11 114 = some (11, 44, 5176) := by decide +kernel
theorem fs_11_114 : stfT 11 114 = none := by decide +kernel
theorem ff_11_122 : fldT 11 122 = some (11, 46, 5178) := by decide +kernel
theorem fs_11_122 : stfT 11 122 = none := by decide +kernel
theorem ff_11_125 : fldT 11 125 = some (11, 47, 5179) := by decide +kernel
theorem fs_11_125 : stfT 11 125 = none := by decide +kernel
theorem ff_11_128 : fldT 11 128 = some (11, 48, 5180) := by decide +kernel
theorem fs_11_128 : stfT 11 128 = none := by decide +kernel
theorem ff_11_131 : fldT 11 131 = some (11, 49, 5181) := by decide +kernel
theorem fs_11_131 : stfT 11 131 = none := by decide +kernel
theorem ff_11_134 : fldT 11 134 = some (11, 50, 5182) := by decide +kernel
theorem fs_11_134 : stfT 11 134 = none := by decide +kernel
theorem ff_11_137 : fldT 11 137 = some (11, 51, 5183) := by decide +kernel
theorem fs_11_137 : stfT 11 137 = none := by decide +kernel
theorem ff_11_140 : fldT 11 140 = some (11, 58, 5190) := by decide +kernel
theorem fs_11_140 : stfT 11 140 = none := by decide +kernel
theorem ff_11_143 : fldT 11 143 = some (11, 59, 5191) := by decide +kernel
theorem fs_11_143 : stfT 11 143 = none := by decide +kernel
theorem ff_11_146 : fldT 11 146 = some (11, 60, 5192) := by decide +kernel
theorem fs_11_146 : stfT 11 146 = none := by decide +kernel
theorem ff_11_149 : fldT 11 149 = some (11, 61, 5193) := by decide +kernel
theorem fs_11_149 : stfT 11 149 = none := by decide +kernel
theorem ff_11_152 : fldT 11 152 = some (11, 64, 5196) := by decide +kernel
theorem fs_11_152 : stfT 11 152 = none := by decide +kernel
theorem ff_11_156 : fldT 11 156 = some (11, 65, 5197) := by decide +kernel
theorem fs_11_156 : stfT 11 156 = none := by decide +kernel
theorem ff_11_159 : fldT 11 159 = some (11, 66, 5198) := by decide +kernel
theorem fs_11_159 : stfT 11 159 = none := by decide +kernel
theorem ff_11_162 : fldT 11 162 = some (11, 67, 5199) := by decide +kernel
theorem fs_11_162 : stfT 11 162 = none := by decide +kernel
theorem ff_11_165 : fldT 11 165 = some (11, 68, 5200) := by decide +kernel
theorem fs_11_165 : stfT 11 165 = none := by decide +kernel
theorem ff_11_168 : fldT 11 168 = some (11, 69, 5201) := by decide +kernel
theorem fs_11_168 : stfT 11 168 = none := by decide +kernel
theorem ff_11_171 : fldT 11 171 = some (11, 74, 5206) := by decide +kernel
theorem fs_11_171 : stfT 11 171 = none := by decide +kernel
theorem ff_11_174 : fldT 11 174 = some (11, 75, 5207) := by decide +kernel
theorem fs_11_174 : stfT 11 174 = none := by decide +kernel
theorem ff_11_177 : fldT 11 177 = some (11, 78, 5210) := by decide +kernel
theorem fs_11_177 : stfT 11 177 = none := by decide +kernel
theorem ff_11_180 : fldT 11 180 = some (11, 79, 5211) := by decide +kernel
theorem fs_11_180 : stfT 11 180 = none := by decide +kernel
theorem ff_11_183 : fldT 11 183 = some (11, 80, 5212) := by decide +kernel
theorem fs_11_183 : stfT 11 183 = none := by decide +kernel
theorem ff_11_186 : fldT 11 186 = some (11, 81, 5213) := by decide +kernel
theorem fs_11_186 : stfT 11 186 = none := by decide +kernel
theorem ff_11_189 : fldT 11 189 = some (11, 82, 5214) := by decide +kernel
theorem fs_11_189 : stfT 11 189 = none := by decide +kernel
theorem ff_11_192 : fldT 11 192 = some (11, 83, 5215) := by decide +kernel
theorem fs_11_192 : stfT 11 192 = none := by decide +kernel
theorem ff_11_195 : fldT 11 195 = some (11, 85, 5217) := by decide +kernel
theorem fs_11_195 : stfT 11 195 = none := by decide +kernel
theorem ff_11_198 : fldT 11 198 = some (11, 86, 5218) := by decide +kernel
theorem fs_11_198 : stfT 11 198 = none := by decide +kernel
theorem ff_11_201 : fldT 11 201 = some (11, 87, 5219) := by decide +kernel
theorem fs_11_201 : stfT 11 201 = none := by decide +kernel
theorem ff_11_204 : fldT 11 204 = some (11, 88, 5220) := by decide +kernel
theorem fs_11_204 : stfT 11 204 = none := by decide +kernel
theorem ff_11_215 : fldT 11 215 = some (11, 35, 5167) := by decide +kernel
theorem fs_11_215 : stfT 11 215 = none := by decide +kernel
theorem ff_11_218 : fldT 11 218 = some (11, 36, 5168) := by decide +kernel
theorem fs_11_218 : stfT 11 218 = none := by decide +kernel
theorem ff_11_221 : fldT 11 221 = some (11, 38, 5170) := by decide +kernel
theorem fs_11_221 : stfT 11 221 = none := by decide +kernel
theorem ff_11_296 : fldT 11 296 = some (11, 37, 5169) := by decide +kernel
theorem fs_11_296 : stfT 11 296 = none := by decide +kernel
theorem ff_11_308 : fldT 11 308 = some (11, 39, 5171) := by decide +kernel
theorem fs_11_308 : stfT 11 308 = none := by decide +kernel
theorem ff_11_311 : fldT 11 311 = some (11, 40, 5172) := by decide +kernel
theorem fs_11_311 : stfT 11 311 = none := by decide +kernel
theorem ff_11_314 : fldT 11 314 = some (11, 41, 5173) := by decide +kernel
theorem fs_11_314 : stfT 11 314 = none := by decide +kernel
theorem ff_11_323 : fldT 11 323 = some (11, 33, 5165) := by decide +kernel
theorem fs_11_323 : stfT 11 323 = none := by decide +kernel
theorem ff_11_326 : fldT 11 326 = some (11, 43, 5175) := by decide +kernel
theorem fs_11_326 : stfT 11 326 = none := by decide +kernel
theorem ff_11_362 : fldT 11 362 = some (11, 34, 5166) := by decide +kernel
theorem fs_11_362 : stfT 11 362 = none := by decide +kernel
theorem ff_11_368 : fldT 11 368 = some (11, 45, 5177) := by decide +kernel
theorem fs_11_368 : stfT 11 368 = none := by decide +kernel
theorem ff_11_383 : fldT 11 383 = some (11, 42, 5174) := by decide +kernel
theorem fs_11_383 : stfT 11 383 = none := by decide +kernel
theorem ff_11_405 : fldT 11 405 = some (11, 77, 5209) := by decide +kernel
theorem fs_11_405 : stfT 11 405 = none := by decide +kernel
theorem ff_11_408 : fldT 11 408 = some (11, 56, 5188) := by decide +kernel
theorem fs_11_408 : stfT 11 408 = none := by decide +kernel
theorem ff_11_414 : fldT 11 414 = some (11, 52, 5184) := by decide +kernel
theorem fs_11_414 : stfT 11 414 = none := by decide +kernel
theorem ff_11_417 : fldT 11 417 = some (11, 53, 5185) := by decide +kernel
theorem fs_11_417 : stfT 11 417 = none := by decide +kernel
theorem ff_11_419 : fldT 11 419 = some (11, 54, 5186) := by decide +kernel
theorem fs_11_419 : stfT 11 419 = none := by decide +kernel
theorem ff_11_421 : fldT 11 421 = some (11, 55, 5187) := by decide +kernel
theorem fs_11_421 : stfT 11 421 = none := by decide +kernel
theorem ff_11_424 : fldT 11 424 = some (11, 57, 5189) := by decide +kernel
theorem fs_11_424 : stfT 11 424 = none := by decide +kernel
theorem ff_11_445 : fldT 11 445 = some (11, 62, 5194) := by decide +kernel
theorem fs_11_445 : stfT 11 445 = none := by decide +kernel
theorem ff_11_457 : fldT 11 457 = some (11, 63, 5195) := by decide +kernel
theorem fs_11_457 : stfT 11 457 = none := by decide +kernel
theorem ff_11_498 : fldT 11 498 = some (11, 70, 5202) := by decide +kernel
theorem fs_11_498 : stfT 11 498 = none := by decide +kernel
theorem ff_11_518 : fldT 11 518 = some (11, 71, 5203) := by decide +kernel
theorem fs_11_518 : stfT 11 518 = none := by decide +kernel
theorem ff_11_521 : fldT 11 521 = some (11, 72, 5204) := by decide +kernel
theorem fs_11_521 : stfT 11 521 = none := by decide +kernel
theorem ff_11_530 : fldT 11 530 = some (11, 73, 5205) := by decide +kernel
theorem fs_11_530 : stfT 11 530 = none := by decide +kernel
theorem ff_11_536 : fldT 11 536 = some (11, 76, 5208) := by decide +kernel
theorem fs_11_536 : stfT 11 536 = none := by decide +kernel
theorem ff_11_556 : fldT 11 556 = some (11, 84, 5216) := by decide +kernel
theorem fs_11_556 : stfT 11 556 = none := by decide +kernel
theorem mm_0_3 : mthT 0 3 = some (9999, 0, 1229) := by decide +kernel
theorem mm_1_3 : mthT 1 3 = some (9999, 0, 1067) := by decide +kernel
theorem mm_1_49 : mthT 1 49 = some (9, 0, 4078) := by decide +kernel
theorem mm_1_53 : mthT 1 53 = some (238, 0, 4163) := by decide +kernel
theorem mm_1_59 : mthT 1 59 = some (236, 0, 4164) := by decide +kernel
theorem mm_1_62 : mthT 1 62 = some (237, 0, 4099) := by decide +kernel
theorem mm_1_65 : mthT 1 65 = some (239, 0, 4102) := by decide +kernel
theorem mm_1_67 : mthT 1 67 = some (10, 0, 4082) := by decide +kernel
theorem mm_2_3 : mthT 2 3 = some (9999, 0, 1035) := by decide +kernel
theorem mm_2_53 : mthT 2 53 = some (77, 1, 1042) := by decide +kernel
theorem mm_2_58 : mthT 2 58 = some (1, 1, 1064) := by decide +kernel
theorem mm_2_59 : mthT 2 59 = some (88, 0, 4064) := by decide +kernel
theorem mm_2_65 : mthT 2 65 = some (6, 0, 4074) := by decide +kernel
theorem mm_2_77 : mthT 2 77 = some (12, 0, 4060) := by decide +kernel
theorem mm_2_81 : mthT 2 81 = some (141, 1, 4085) := by decide +kernel
theorem mm_2_85 : mthT 2 85 = some (14, 0, 4086) := by decide +kernel
theorem mm_2_92 : mthT 2 92 = some (140, 1, 4090) := by decide +kernel
theorem mm_2_96 : mthT 2 96 = some (8, 0, 4095) := by decide +kernel
theorem mm_2_100 : mthT 2 100 = some (16, 0, 4105) := by decide +kernel
theorem mm_2_104 : mthT 2 104 = some (15, 0, 4091) := by decide +kernel
theorem mm_2_123 : mthT 2 123 = some (17, 0, 4109) := by decide +kernel
theorem mm_2_155 : mthT 2 155 = some (21, 0, 4220) := by decide +kernel
theorem mm_2_159 : mthT 2 159 = some (22, 0, 4149) := by decide +kernel
theorem mm_2_166 : mthT 2 166 = some (23, 0, 4154) := by decide +kernel
theorem mm_2_170 : mthT 2 170 = some (24, 0, 4171) := by decide +kernel
theorem mm_2_174 : mthT 2 174 = some (25, 0, 4175) := by decide +kernel
theorem mm_2_178 : mthT 2 178 = some (19, 0, 4153) := by decide +kernel
theorem mm_2_182 : mthT 2 182 = some (18, 0, 4158) := by decide +kernel
theorem mm_2_188 : mthT 2 188 = some (7, 0, 4159) := by decide +kernel
theorem mm_2_192 : mthT 2 192 = some (34, 0, 4165) := by decide +kernel
theorem mm_2_196 : mthT 2 196 = some (238, 0, 4170) := by decide +kernel
theorem mm_2_204 : mthT 2 204 = some (9998, 0, 4179) := by decide +kernel
theorem mm_2_210 : mthT 2 210 = some (78, 0, 4182) := by decide +kernel
theorem mm_2_213 : mthT 2 213 = some (26, 0, 4204) := by decide +kernel
theorem mm_2_216 : mthT 2 216 = some (83, 0, 4208) := by decide +kernel
theorem mm_3_3 : mthT 3 3 = some (9999, 0, 2177) := by decide +kernel
theorem mm_3_18 : mthT 3 18 = some (30, 0, 2178) := by decide +kernel
theorem mm_3_38 : mthT 3 38 = some (9998, 0, 5083) := by decide +kernel
theorem mm_3_44 : mthT 3 44 = some (140, 1, 4169) := by decide +kernel
theorem mm_4_3 : mthT 4 3 = some (9999, 0, 1181) := by decide +kernel
theorem mm_5_3 : mthT 5 3 = some (9999, 0, 2015) := by decide +kernel
theorem mm_5_34 : mthT 5 34 = some (240, 0, 2017) := by decide +kernel
theorem mm_5_40 : mthT 5 40 = some (241, 0, 2027) := by decide +kernel
theorem mm_5_61 : mthT 5 61 = some (2, 0, 3105) := by decide +kernel
theorem mm_5_66 : mthT 5 66 = some (70, 0, 3109) := by decide +kernel
theorem mm_5_70 : mthT 5 70 = some (68, 0, 3137) := by decide +kernel
theorem mm_5_73 : mthT 5 73 = some (41, 0, 3141) := by decide +kernel
theorem mm_5_77 : mthT 5 77 = some (67, 0, 3235) := by decide +kernel
theorem mm_5_84 : mthT 5 84 = some (30, 1, 4003) := by decide +kernel
theorem mm_5_87 : mthT 5 87 = some (48, 0, 4004) := by decide +kernel
theorem mm_5_90 : mthT 5 90 = some (69, 0, 3145) := by decide +kernel
theorem mm_5_93 : mthT 5 93 = some (42, 0, 3149) := by decide +kernel
theorem mm_5_97 : mthT 5 97 = some (43, 0, 3204) := by decide +kernel
theorem mm_5_100 : mthT 5 100 = some (44, 0, 3212) := by decide +kernel
theorem mm_5_103 : mthT 5 103 = some (45, 0, 3216) := by decide +kernel
theorem mm_5_106 : mthT 5 106 = some (46, 0, 3228) := by decide +kernel
theorem mm_5_112 : mthT 5 112 = some (53, 0, 3153) := by decide +kernel
theorem mm_5_115 : mthT 5 115 = some (4, 0, 3200) := by decide +kernel
theorem mm_5_119 : mthT 5 119 = some (65, 0, 3208) := by decide +kernel
theorem mm_5_122 : mthT 5 122 = some (60, 0, 3157) := by decide +kernel
theorem mm_5_134 : mthT 5 134 = some (64, 0, 3220) := by decide +kernel
theorem mm_5_137 : mthT 5 137 = some (5, 0, 3224) := by decide +kernel
theorem mm_5_141 : mthT 5 141 = some (47, 0, 3232) := by decide +kernel
theorem mm_5_152 : mthT 5 152 = some (49, 0, 4008) := by decide +kernel
theorem mm_5_155 : mthT 5 155 = some (50, 0, 4016) := by decide +kernel
theorem mm_5_158 : mthT 5 158 = some (51, 0, 4027) := by decide +kernel
theorem mm_5_161 : mthT 5 161 = some (52, 0, 4031) := by decide +kernel
theorem mm_5_164 : mthT 5 164 = some (32, 0, 4012) := by decide +kernel
theorem mm_5_171 : mthT 5 171 = some (66, 0, 4020) := by decide +kernel
theorem mm_5_189 : mthT 5 189 = some (59, 0, 3177) := by decide +kernel
theorem mm_5_192 : mthT 5 192 = some (3, 0, 3165) := by decide +kernel
theorem mm_5_195 : mthT 5 195 = some (56, 0, 3180) := by decide +kernel
theorem mm_5_198 : mthT 5 198 = some (58, 0, 3192) := by decide +kernel
theorem mm_5_201 : mthT 5 201 = some (57, 0, 3188) := by decide +kernel
theorem mm_5_205 : mthT 5 205 = some (54, 0, 3196) := by decide +kernel
theorem mm_5_208 : mthT 5 208 = some (55, 0, 3184) := by decide +kernel
theorem mm_5_211 : mthT 5 211 = some (62, 0, 3161) := by decide +kernel
theorem mm_5_214 : mthT 5 214 = some (61, 0, 3169) := by decide +kernel
theorem mm_5_217 : mthT 5 217 = some (63, 0, 3173) := by decide +kernel
theorem mm_5_220 : mthT 5 220 = some (140, 1, 4024) := by decide +kernel
theorem mm_5_224 : mthT 5 224 = some (238, 0, 3113) := by decide +kernel
theorem mm_5_230 : mthT 5 230 = some (236, 0, 3116) := by decide +kernel
theorem mm_5_233 : mthT 5 233 = some (72, 0, 3117) := by decide +kernel
theorem mm_5_236 : mthT 5 236 = some (76, 0, 3120) := by decide +kernel
theorem mm_5_240 : mthT 5 240 = some (71, 0, 3124) := by decide +kernel
theorem mm_5_243 : mthT 5 243 = some (73, 0, 3128) := by decide +kernel
theorem mm_5_246 : mthT 5 246 = some (75, 0, 3131) := by decide +kernel
theorem mm_5_249 : mthT 5 249 = some (74, 0, 3134) := by decide +kernel
theorem mm_6_3 : mthT 6 3 = some (9999, 0, 1045) := by decide +kernel
theorem mm_6_28 : mthT 6 28 = some (79, 0, 4186) := by decide +kernel
theorem mm_6_32 : mthT 6 32 = some (80, 0, 4191) := by decide +kernel
theorem mm_6_38 : mthT 6 38 = some (82, 0, 4200) := by decide +kernel
theorem mm_6_42 : mthT 6 42 = some (140, 1, 4190) := by decide +kernel
theorem mm_6_46 : mthT 6 46 = some (81, 0, 4195) := by decide +kernel
theorem mm_7_3 : mthT 7 3 = some (9999, 0, 2119) := by decide +kernel
theorem mm_7_22 : mthT 7 22 = some (9998, 0, 5006) := by decide +kernel
theorem mm_7_34 : mthT 7 34 = some (140, 1, 4068) := by decide +kernel
theorem mm_7_38 : mthT 7 38 = some (89, 0, 4069) := by decide +kernel
theorem mm_7_42 : mthT 7 42 = some (236, 0, 4073) := by decide +kernel
theorem mm_8_1 : mthT 8 1 = some (9999, 0, 2148) := by decide +kernel
theorem mm_9_3 : mthT 9 3 = some (9999, 0, 2217) := by decide +kernel
theorem mm_9_17 : mthT 9 17 = some (84, 1, 2219) := by decide +kernel
theorem mm_9_32 : mthT 9 32 = some (90, 1, 2222) := by decide +kernel
theorem mm_9_36 : mthT 9 36 = some (236, 0, 3061) := by decide +kernel
theorem mm_9_42 : mthT 9 42 = some (87, 0, 3064) := by decide +kernel
theorem mm_9_46 : mthT 9 46 = some (85, 0, 5039) := by decide +kernel
theorem mm_10_3 : mthT 10 3 = some (9999, 0, 1025) := by decide +kernel
theorem mm_10_17 : mthT 10 17 = some (11, 0, 1032) := by decide +kernel
theorem mm_10_38 : mthT 10 38 = some (35, 1, 1178) := by decide +kernel
theorem mm_10_45 : mthT 10 45 = some (0, 1, 1226) := by decide +kernel
theorem mm_10_56 : mthT 10 56 = some (37, 0, 2012) := by decide +kernel
theorem mm_10_63 : mthT 10 63 = some (84, 1, 2116) := by decide +kernel
theorem mm_10_70 : mthT 10 70 = some (90, 1, 2145) := by decide +kernel
theorem mm_10_77 : mthT 10 77 = some (1, 1, 2172) := by decide +kernel
theorem mm_10_82 : mthT 10 82 = some (29, 0, 2174) := by decide +kernel
theorem mm_10_87 : mthT 10 87 = some (91, 0, 2214) := by decide +kernel
theorem mm_10_88 : mthT 10 88 = some (137, 0, 3048) := by decide +kernel
theorem mm_10_92 : mthT 10 92 = some (139, 0, 3051) := by decide +kernel
theorem mm_10_95 : mthT 10 95 = some (93, 0, 3057) := by decide +kernel
theorem mm_10_99 : mthT 10 99 = some (138, 0, 3054) := by decide +kernel
theorem mm_10_141 : mthT 10 141 = some (102, 0, 3085) := by decide +kernel
theorem mm_10_145 : mthT 10 145 = some (38, 0, 3097) := by decide +kernel
theorem mm_10_148 : mthT 10 148 = some (39, 0, 3101) := by decide +kernel
theorem mm_10_152 : mthT 10 152 = some (40, 0, 3239) := by decide +kernel
theorem mm_10_156 : mthT 10 156 = some (141, 0, 4035) := by decide +kernel
theorem mm_10_166 : mthT 10 166 = some (136, 0, 4048) := by decide +kernel
theorem mm_10_176 : mthT 10 176 = some (140, 0, 4113) := by decide +kernel
theorem mm_10_186 : mthT 10 186 = some (107, 0, 4114) := by decide +kernel
theorem mm_10_190 : mthT 10 190 = some (15, 0, 4121) := by decide +kernel
theorem mm_10_197 : mthT 10 197 = some (8, 0, 4128) := by decide +kernel
theorem mm_10_201 : mthT 10 201 = some (92, 0, 4133) := by decide +kernel
theorem mm_10_204 : mthT 10 204 = some (18, 0, 4137) := by decide +kernel
theorem mm_10_208 : mthT 10 208 = some (19, 0, 4141) := by decide +kernel
theorem mm_10_212 : mthT 10 212 = some (21, 0, 4145) := by decide +kernel
theorem mm_10_226 : mthT 10 226 = some (95, 0, 4052) := by decide +kernel
theorem mm_10_233 : mthT 10 233 = some (20, 0, 4216) := by decide +kernel
theorem mm_10_237 : mthT 10 237 = some (112, 0, 4221) := by decide +kernel
theorem mm_10_241 : mthT 10 241 = some (27, 0, 4225) := by decide +kernel
theorem mm_10_245 : mthT 10 245 = some (114, 0, 4233) := by decide +kernel
theorem mm_10_251 : mthT 10 251 = some (235, 0, 5012) := by decide +kernel
theorem mm_10_256 : mthT 10 256 = some (85, 0, 5002) := by decide +kernel
theorem mm_10_260 : mthT 10 260 = some (86, 0, 5007) := by decide +kernel
theorem mm_10_263 : mthT 10 263 = some (13, 0, 4056) := by decide +kernel
theorem mm_10_266 : mthT 10 266 = some (12, 0, 4237) := by decide +kernel
theorem mm_10_273 : mthT 10 273 = some (115, 0, 4238) := by decide +kernel
theorem mm_10_277 : mthT 10 277 = some (117, 0, 5019) := by decide +kernel
theorem mm_10_289 : mthT 10 289 = some (120, 0, 5031) := by decide +kernel
theorem mm_10_293 : mthT 10 293 = some (94, 0, 5035) := by decide +kernel
theorem mm_10_309 : mthT 10 309 = some (123, 0, 5048) := by decide +kernel
theorem mm_10_313 : mthT 10 313 = some (36, 0, 5052) := by decide +kernel
theorem mm_10_329 : mthT 10 329 = some (234, 0, 5065) := by decide +kernel
theorem mm_10_334 : mthT 10 334 = some (126, 0, 5071) := by decide +kernel
theorem mm_10_337 : mthT 10 337 = some (128, 0, 5089) := by decide +kernel
theorem mm_10_340 : mthT 10 340 = some (129, 0, 5075) := by decide +kernel
theorem mm_10_343 : mthT 10 343 = some (31, 0, 5079) := by decide +kernel
theorem mm_10_347 : mthT 10 347 = some (33, 0, 5084) := by decide +kernel
theorem mm_10_351 : mthT 10 351 = some (16, 0, 5088) := by decide +kernel
theorem mm_10_355 : mthT 10 355 = some (131, 0, 5097) := by decide +kernel
theorem mm_10_358 : mthT 10 358 = some (28, 0, 5101) := by decide +kernel
theorem mm_10_361 : mthT 10 361 = some (34, 0, 5105) := by decide +kernel
theorem mm_10_364 : mthT 10 364 = some (238, 0, 4038) := by decide +kernel
theorem mm_10_380 : mthT 10 380 = some (134, 0, 5114) := by decide +kernel
theorem mm_10_383 : mthT 10 383 = some (236, 0, 4039) := by decide +kernel
theorem mm_11_1 : mthT 11 1 = some (142, 0, 6168) := by decide +kernel
theorem mm_11_7 : mthT 11 7 = some (9999, 0, 5127) := by decide +kernel
theorem mm_11_118 : mthT 11 118 = some (179, 0, 5128) := by decide +kernel
theorem mm_11_207 : mthT 11 207 = some (143, 0, 6165) := by decide +kernel
theorem mm_11_211 : mthT 11 211 = some (144, 0, 6171) := by decide +kernel
theorem mm_11_224 : mthT 11 224 = some (240, 0, 6223) := by decide +kernel
theorem mm_11_230 : mthT 11 230 = some (241, 0, 6224) := by decide +kernel
theorem mm_11_236 : mthT 11 236 = some (156, 0, 6219) := by decide +kernel
theorem mm_11_289 : mthT 11 289 = some (157, 0, 6239) := by decide +kernel
theorem mm_11_292 : mthT 11 292 = some (153, 0, 6207) := by decide +kernel
theorem mm_11_299 : mthT 11 299 = some (154, 0, 6211) := by decide +kernel
theorem mm_11_302 : mthT 11 302 = some (158, 0, 6214) := by decide +kernel
theorem mm_11_305 : mthT 11 305 = some (155, 0, 7017) := by decide +kernel
theorem mm_11_317 : mthT 11 317 = some (160, 0, 7024) := by decide +kernel
theorem mm_11_320 : mthT 11 320 = some (159, 0, 6203) := by decide +kernel
theorem mm_11_329 : mthT 11 329 = some (166, 0, 7060) := by decide +kernel
theorem mm_11_333 : mthT 11 333 = some (163, 0, 7068) := by decide +kernel
theorem mm_11_337 : mthT 11 337 = some (167, 0, 7064) := by decide +kernel
theorem mm_11_340 : mthT 11 340 = some (162, 0, 7036) := by decide +kernel
theorem mm_11_344 : mthT 11 344 = some (169, 0, 7076) := by decide +kernel
theorem mm_11_347 : mthT 11 347 = some (170, 0, 7080) := by decide +kernel
theorem mm_11_350 : mthT 11 350 = some (164, 0, 7084) := by decide +kernel
theorem mm_11_353 : mthT 11 353 = some (168, 0, 7072) := by decide +kernel
theorem mm_11_356 : mthT 11 356 = some (161, 0, 7044) := by decide +kernel
theorem mm_11_359 : mthT 11 359 = some (165, 0, 7056) := by decide +kernel
theorem mm_11_365 : mthT 11 365 = some (171, 0, 7032) := by decide +kernel
theorem mm_11_372 : mthT 11 372 = some (172, 0, 7052) := by decide +kernel
theorem mm_11_375 : mthT 11 375 = some (173, 0, 7088) := by decide +kernel
theorem mm_11_378 : mthT 11 378 = some (174, 0, 7040) := by decide +kernel
theorem mm_11_380 : mthT 11 380 = some (176, 0, 7028) := by decide +kernel
theorem mm_11_386 : mthT 11 386 = some (178, 0, 6199) := by decide +kernel
theorem mm_11_389 : mthT 11 389 = some (177, 0, 7020) := by decide +kernel
theorem mm_11_392 : mthT 11 392 = some (175, 0, 7048) := by decide +kernel
theorem mm_11_395 : mthT 11 395 = some (181, 0, 7092) := by decide +kernel
theorem mm_11_398 : mthT 11 398 = some (180, 0, 7096) := by decide +kernel
theorem mm_11_401 : mthT 11 401 = some (184, 0, 7140) := by decide +kernel
theorem mm_11_411 : mthT 11 411 = some (188, 0, 7112) := by decide +kernel
theorem mm_11_427 : mthT 11 427 = some (187, 0, 7116) := by decide +kernel
theorem mm_11_430 : mthT 11 430 = some (190, 0, 7132) := by decide +kernel
theorem mm_11_432 : mthT 11 432 = some (191, 0, 7128) := by decide +kernel
theorem mm_11_435 : mthT 11 435 = some (185, 0, 7136) := by decide +kernel
theorem mm_11_438 : mthT 11 438 = some (186, 0, 7155) := by decide +kernel
theorem mm_11_442 : mthT 11 442 = some (193, 0, 7158) := by decide +kernel
theorem mm_11_448 : mthT 11 448 = some (194, 0, 7151) := by decide +kernel
theorem mm_11_451 : mthT 11 451 = some (195, 0, 7147) := by decide +kernel
theorem mm_11_454 : mthT 11 454 = some (192, 0, 7124) := by decide +kernel
theorem mm_11_460 : mthT 11 460 = some (196, 0, 7143) := by decide +kernel
theorem mm_11_463 : mthT 11 463 = some (189, 0, 7108) := by decide +kernel
theorem mm_11_466 : mthT 11 466 = some (197, 0, 7120) := by decide +kernel
theorem mm_11_470 : mthT 11 470 = some (200, 0, 7171) := by decide +kernel
theorem mm_11_476 : mthT 11 476 = some (202, 0, 7192) := by decide +kernel
theorem mm_11_479 : mthT 11 479 = some (204, 0, 7188) := by decide +kernel
theorem mm_11_482 : mthT 11 482 = some (203, 0, 7196) := by decide +kernel
theorem mm_11_485 : mthT 11 485 = some (205, 0, 7200) := by decide +kernel
theorem mm_11_488 : mthT 11 488 = some (206, 0, 7204) := by decide +kernel
theorem mm_11_491 : mthT 11 491 = some (208, 0, 7212) := by decide +kernel
theorem mm_11_494 : mthT 11 494 = some (210, 0, 7224) := by decide +kernel
theorem mm_11_502 : mthT 11 502 = some (209, 0, 7216) := by decide +kernel
theorem mm_11_506 : mthT 11 506 = some (211, 0, 7220) := by decide +kernel
theorem mm_11_509 : mthT 11 509 = some (207, 0, 7184) := by decide +kernel
theorem mm_11_512 : mthT 11 512 = some (212, 0, 7208) := by decide +kernel
theorem mm_11_515 : mthT 11 515 = some (213, 0, 7180) := by decide +kernel
theorem mm_11_524 : mthT 11 524 = some (215, 0, 7232) := by decide +kernel
theorem mm_11_533 : mthT 11 533 = some (220, 0, 8013) := by decide +kernel
theorem mm_11_541 : mthT 11 541 = some (224, 0, 8025) := by decide +kernel
theorem mm_11_544 : mthT 11 544 = some (223, 0, 8030) := by decide +kernel
theorem mm_11_547 : mthT 11 547 = some (145, 0, 8042) := by decide +kernel
theorem mm_11_550 : mthT 11 550 = some (227, 0, 8045) := by decide +kernel
theorem mm_11_553 : mthT 11 553 = some (229, 0, 8053) := by decide +kernel
theorem mm_11_559 : mthT 11 559 = some (198, 0, 8065) := by decide +kernel
theorem mm_11_562 : mthT 11 562 = some (214, 0, 8066) := by decide +kernel
theorem mm_11_566 : mthT 11 566 = some (216, 0, 8067) := by decide +kernel
theorem mm_12_9 : mthT 12 9 = some (96, 0, 1022) := by decide +kernel
theorem mm_12_12 : mthT 12 12 = some (146, 0, 5124) := by decide +kernel
theorem mm_12_13 : mthT 12 13 = some (97, 0, 3044) := by decide +kernel
theorem mm_12_17 : mthT 12 17 = some (147, 0, 6161) := by decide +kernel
theorem mm_12_18 : mthT 12 18 = some (98, 0, 3068) := by decide +kernel
theorem mm_12_22 : mthT 12 22 = some (148, 0, 6174) := by decide +kernel
theorem mm_12_23 : mthT 12 23 = some (99, 0, 3072) := by decide +kernel
theorem mm_12_27 : mthT 12 27 = some (149, 0, 6178) := by decide +kernel
theorem mm_12_28 : mthT 12 28 = some (100, 0, 3076) := by decide +kernel
theorem mm_12_32 : mthT 12 32 = some (150, 0, 6182) := by decide +kernel
theorem mm_12_33 : mthT 12 33 = some (101, 0, 3081) := by decide +kernel
theorem mm_12_37 : mthT 12 37 = some (151, 0, 6187) := by decide +kernel
theorem mm_12_38 : mthT 12 38 = some (103, 0, 3089) := by decide +kernel
theorem mm_12_42 : mthT 12 42 = some (152, 0, 6191) := by decide +kernel
theorem mm_12_43 : mthT 12 43 = some (104, 0, 3093) := by decide +kernel
theorem mm_12_47 : mthT 12 47 = some (182, 0, 6195) := by decide +kernel
theorem mm_12_48 : mthT 12 48 = some (105, 0, 4040) := by decide +kernel
theorem mm_12_52 : mthT 12 52 = some (183, 0, 7100) := by decide +kernel
theorem mm_12_53 : mthT 12 53 = some (106, 0, 4044) := by decide +kernel
theorem mm_12_57 : mthT 12 57 = some (198, 0, 7104) := by decide +kernel
theorem mm_12_58 : mthT 12 58 = some (108, 0, 4117) := by decide +kernel
theorem mm_12_61 : mthT 12 61 = some (199, 0, 7162) := by decide +kernel
theorem mm_12_62 : mthT 12 62 = some (109, 0, 4122) := by decide +kernel
theorem mm_12_66 : mthT 12 66 = some (201, 0, 7166) := by decide +kernel
theorem mm_12_67 : mthT 12 67 = some (110, 0, 4129) := by decide +kernel
theorem mm_12_71 : mthT 12 71 = some (214, 0, 7176) := by decide +kernel
theorem mm_12_72 : mthT 12 72 = some (111, 0, 4212) := by decide +kernel
theorem mm_12_75 : mthT 12 75 = some (216, 0, 7228) := by decide +kernel
theorem mm_12_76 : mthT 12 76 = some (113, 0, 4229) := by decide +kernel
theorem mm_12_79 : mthT 12 79 = some (217, 0, 7236) := by decide +kernel
theorem mm_12_80 : mthT 12 80 = some (116, 0, 5015) := by decide +kernel
theorem mm_12_83 : mthT 12 83 = some (218, 0, 8001) := by decide +kernel
theorem mm_12_84 : mthT 12 84 = some (118, 0, 5023) := by decide +kernel
theorem mm_12_87 : mthT 12 87 = some (219, 0, 8005) := by decide +kernel
theorem mm_12_88 : mthT 12 88 = some (119, 0, 5027) := by decide +kernel
theorem mm_12_91 : mthT 12 91 = some (221, 0, 8009) := by decide +kernel
theorem mm_12_92 : mthT 12 92 = some (121, 0, 5040) := by decide +kernel
theorem mm_12_95 : mthT 12 95 = some (222, 0, 8017) := by decide +kernel
theorem mm_12_96 : mthT 12 96 = some (122, 0, 5044) := by decide +kernel
theorem mm_12_100 : mthT 12 100 = some (225, 0, 8021) := by decide +kernel
theorem mm_12_101 : mthT 12 101 = some (124, 0, 5057) := by decide +kernel
theorem mm_12_105 : mthT 12 105 = some (226, 0, 8034) := by decide +kernel
theorem mm_12_106 : mthT 12 106 = some (125, 0, 5061) := by decide +kernel
theorem mm_12_110 : mthT 12 110 = some (228, 0, 8038) := by decide +kernel
theorem mm_12_111 : mthT 12 111 = some (130, 0, 5093) := by decide +kernel
theorem mm_12_114 : mthT 12 114 = some (230, 0, 8049) := by decide +kernel
theorem mm_12_117 : mthT 12 117 = some (132, 0, 5106) := by decide +kernel
theorem mm_12_121 : mthT 12 121 = some (231, 0, 8057) := by decide +kernel
theorem mm_12_122 : mthT 12 122 = some (133, 0, 5110) := by decide +kernel
theorem mm_12_125 : mthT 12 125 = some (232, 0, 8061) := by decide +kernel
theorem mm_12_126 : mthT 12 126 = some (135, 0, 5118) := by decide +kernel
theorem mm_12_129 : mthT 12 129 = some (233, 0, 8068) := by decide +kernel
theorem mm_15_335 : mthT 15 335 = some (242, 0, 2021) := by decide +kernel
theorem mm_15_492 : mthT 15 492 = some (243, 0, 2031) := by decide +kernel
theorem mm_15_495 : mthT 15 495 = some (245, 0, 2035) := by decide +kernel
theorem mm_15_1059 : mthT 15 1059 = some (246, 0, 2043) := by decide +kernel
theorem mm_16_9 : mthT 16 9 = some (244, 0, 2038) := by decide +kernel
theorem sa_15_38 : staT 15 38 = some (0, 2025) := by decide +kernel
theorem sa_15_1053 : staT 15 1053 = some (1, 2041) := by decide +kernel
theorem sf_15_9 : stfT 15 9 = some (0, 8073) := by decide +kernel
theorem sf_15_15 : stfT 15 15 = some (1, 8074) := by decide +kernel
theorem sr_5_32 : strT 5 32 = some (0, 2016) := by decide +kernel
theorem cn_5_32 : cstT 5 32 = none := by decide +kernel
theorem sr_11_234 : strT 11 234 = some (16, 7003) := by decide +kernel
theorem cn_11_234 : cstT 11 234 = none := by decide +kernel
theorem sr_11_240 : strT 11 240 = some (17, 7004) := by decide +kernel
theorem cn_11_240 : cstT 11 240 = none := by decide +kernel
theorem sr_11_242 : strT 11 242 = some (18, 7005) := by decide +kernel
theorem cn_11_242 : cstT 11 242 = none := by decide +kernel
theorem sr_11_244 : strT 11 244 = some (19, 7006) := by decide +kernel
theorem cn_11_244 : cstT 11 244 = none := by decide +kernel
theorem sr_11_246 : strT 11 246 = some (20, 7007) := by decide +kernel
theorem cn_11_246 : cstT 11 246 = none := by decide +kernel
theorem sr_11_248 : strT 11 248 = some (21, 7008) := by decide +kernel
theorem cn_11_248 : cstT 11 248 = none := by decide +kernel
theorem sr_11_250 : strT 11 250 = some (22, 7009) := by decide +kernel
theorem cn_11_250 : cstT 11 250 = none := by decide +kernel
theorem sr_11_251 : strT 11 251 = some (23, 7010) := by decide +kernel
theorem cn_11_251 : cstT 11 251 = none := by decide +kernel
theorem sr_11_253 : strT 11 253 = some (24, 7011) := by decide +kernel
theorem cn_11_253 : cstT 11 253 = none := by decide +kernel
theorem sr_11_255 : strT 11 255 = some (25, 7012) := by decide +kernel
theorem cn_11_255 : cstT 11 255 = none := by decide +kernel
theorem sr_11_257 : strT 11 257 = some (26, 7013) := by decide +kernel
theorem cn_11_257 : cstT 11 257 = none := by decide +kernel
theorem sr_11_259 : strT 11 259 = some (27, 7014) := by decide +kernel
theorem cn_11_259 : cstT 11 259 = none := by decide +kernel
theorem sr_11_261 : strT 11 261 = some (28, 7015) := by decide +kernel
theorem cn_11_261 : cstT 11 261 = none := by decide +kernel
theorem sr_11_263 : strT 11 263 = some (29, 7016) := by decide +kernel
theorem cn_11_263 : cstT 11 263 = none := by decide +kernel
theorem sr_11_264 : strT 11 264 = some (1, 6218) := by decide +kernel
theorem cn_11_264 : cstT 11 264 = none := by decide +kernel
theorem sr_11_266 : strT 11 266 = some (2, 6225) := by decide +kernel
theorem cn_11_266 : cstT 11 266 = none := by decide +kernel
theorem sr_11_268 : strT 11 268 = some (3, 6226) := by decide +kernel
theorem cn_11_268 : cstT 11 268 = none := by decide +kernel
theorem sr_11_270 : strT 11 270 = some (4, 6227) := by decide +kernel
theorem cn_11_270 : cstT 11 270 = none := by decide +kernel
theorem sr_11_271 : strT 11 271 = some (5, 6228) := by decide +kernel
theorem cn_11_271 : cstT 11 271 = none := by decide +kernel
theorem sr_11_272 : strT 11 272 = some (6, 6229) := by decide +kernel
theorem cn_11_272 : cstT 11 272 = none := by decide +kernel
theorem sr_11_274 : strT 11 274 = some (7, 6230) := by decide +kernel
theorem cn_11_274 : cstT 11 274 = none := by decide +kernel
theorem sr_11_275 : strT 11 275 = some (8, 6231) := by decide +kernel
theorem cn_11_275 : cstT 11 275 = none := by decide +kernel
theorem sr_11_276 : strT 11 276 = some (9, 6232) := by decide +kernel
theorem cn_11_276 : cstT 11 276 = none := by decide +kernel
theorem sr_11_277 : strT 11 277 = some (10, 6233) := by decide +kernel
theorem cn_11_277 : cstT 11 277 = none := by decide +kernel
theorem sr_11_279 : strT 11 279 = some (11, 6234) := by decide +kernel
theorem cn_11_279 : cstT 11 279 = none := by decide +kernel
theorem sr_11_281 : strT 11 281 = some (12, 6235) := by decide +kernel
theorem cn_11_281 : cstT 11 281 = none := by decide +kernel
theorem sr_11_283 : strT 11 283 = some (13, 6236) := by decide +kernel
theorem cn_11_283 : cstT 11 283 = none := by decide +kernel
theorem sr_11_285 : strT 11 285 = some (14, 6237) := by decide +kernel
theorem cn_11_285 : cstT 11 285 = none := by decide +kernel
theorem sr_11_287 : strT 11 287 = some (15, 6238) := by decide +kernel
theorem cn_11_287 : cstT 11 287 = none := by decide +kernel
section CG
variable {α : Type}
theorem ite_c {c : Prop} [Decidable c] {a a' b b' : α} (h1 : a = a') (h2 : b = b') : (if c then a else b) = if c then a' else b' := by rw [h1, h2]
theorem gd_c {c : Prop} [Decidable c] {a b : Option α} (h : a = b) : gd c a = gd c b := by rw [h]
def letH (a : Nat) (h : Hp) (f : Nat → Hp → Option α) : Option α := f a h
theorem letH_e {a : Nat} {h : Hp} {f : Nat → Hp → Option α} : letH a h f = f a h := rfl
theorem letH_i {F f : Nat → Hp → Option α} (a : Nat) (h : Hp) (hf : ∀ a h, F a h = f a h) : F a h = letH a h f := hf a h
def acp (h : Hp) (a : Nat) (sp : Int32) (b : Nat) (dp n : Int32) {rest : List Value} (_ : (rest.map Value.category).sum ≤ 8) (f : Hp → Option α) : Option α :=
  gd (¬ sp < 0 ∧ ¬ dp < 0 ∧ ¬ n < 0 ∧ sp.toNatClampNeg + n.toNatClampNeg ≤ (hS h a).2 ∧ dp.toNatClampNeg + n.toNatClampNeg ≤ (hS h b).2 ∧ (rest.map Value.category).sum ≤ 8)
    (if (hS h a).1 = 50 ∧ (hS h b).1 = 50 then f (rI h b (cpy (hI h a) (hI h b) sp.toNatClampNeg dp.toNatClampNeg n.toNatClampNeg)) else if (hS h a).1 = 51 ∧ (hS h b).1 = 51 then f (rJ h b (cpy (hJ h a) (hJ h b) sp.toNatClampNeg dp.toNatClampNeg n.toNatClampNeg)) else none)
theorem aI_c {X : Ctx} {h : Hp} {a : Nat} {i : Int32} {f g : Int32 → Option α} (hf : ∀ x, f x = g x) : aI X h a i f = aI X h a i g := by rw [funext hf]
theorem aZ_c {h : Hp} {a : Nat} {i : Int32} {f g : Int32 → Option α} (hf : ∀ x, f x = g x) : aZ h a i f = aZ h a i g := by rw [funext hf]
theorem aJ_c {h : Hp} {a : Nat} {i : Int32} {f g : Int64 → Option α} (hf : ∀ x, f x = g x) : aJ h a i f = aJ h a i g := by rw [funext hf]
theorem aR_c {h : Hp} {a : Nat} {i : Int32} {f g : Nat → Option α} (hf : ∀ x, f x = g x) : aR h a i f = aR h a i g := by rw [funext hf]
theorem aL_c {X : Ctx} {h : Hp} {a : Nat} {f g : Int32 → Option α} (hf : ∀ x, f x = g x) : aL X h a f = aL X h a g := by rw [funext hf]
theorem wI_c {h : Hp} {a : Nat} {i v : Int32} {f g : Hp → Option α} (hf : ∀ x, f x = g x) : wI h a i v f = wI h a i v g := by rw [funext hf]
theorem wZ_c {h : Hp} {a : Nat} {i v : Int32} {f g : Hp → Option α} (hf : ∀ x, f x = g x) : wZ h a i v f = wZ h a i v g := by rw [funext hf]
theorem wJ_c {h : Hp} {a : Nat} {i : Int32} {v : Int64} {f g : Hp → Option α} (hf : ∀ x, f x = g x) : wJ h a i v f = wJ h a i v g := by rw [funext hf]
theorem wR_c {h : Hp} {a : Nat} {i : Int32} {v : Nat} {f g : Hp → Option α} (hf : ∀ x, f x = g x) : wR h a i v f = wR h a i v g := by rw [funext hf]
theorem gI_c {h : Hp} {ci a k : Nat} {f g : Int32 → Option α} (hf : ∀ x, f x = g x) : gI h ci a k f = gI h ci a k g := by rw [funext hf]
theorem gJ_c {h : Hp} {ci a k : Nat} {f g : Int64 → Option α} (hf : ∀ x, f x = g x) : gJ h ci a k f = gJ h ci a k g := by rw [funext hf]
theorem gR_c {h : Hp} {ci a k : Nat} {f g : Nat → Option α} (hf : ∀ x, f x = g x) : gR h ci a k f = gR h ci a k g := by rw [funext hf]
theorem fI_c {h : Hp} {ci a k : Nat} {v : Int32} {f g : Hp → Option α} (hf : ∀ x, f x = g x) : fI h ci a k v f = fI h ci a k v g := by rw [funext hf]
theorem fZ_c {h : Hp} {ci a k : Nat} {v : Int32} {f g : Hp → Option α} (hf : ∀ x, f x = g x) : fZ h ci a k v f = fZ h ci a k v g := by rw [funext hf]
theorem fJ_c {h : Hp} {ci a k : Nat} {v : Int64} {f g : Hp → Option α} (hf : ∀ x, f x = g x) : fJ h ci a k v f = fJ h ci a k v g := by rw [funext hf]
theorem fR_c {h : Hp} {ci a k : Nat} {v : Nat} {f g : Hp → Option α} (hf : ∀ x, f x = g x) : fR h ci a k v f = fR h ci a k v g := by rw [funext hf]
theorem bV_c {o : Option (Option Value × Hp)} {f g : Hp → Option α} (hf : ∀ x, f x = g x) : bV o f = bV o g := by rw [funext hf]
theorem bI_c {o : Option (Option Value × Hp)} {f g : Int32 → Hp → Option α} (hf : ∀ x h, f x h = g x h) : bI o f = bI o g := by rw [show f = g from funext fun x => funext fun h => hf x h]
theorem bJ_c {o : Option (Option Value × Hp)} {f g : Int64 → Hp → Option α} (hf : ∀ x h, f x h = g x h) : bJ o f = bJ o g := by rw [show f = g from funext fun x => funext fun h => hf x h]
theorem bR_c {o : Option (Option Value × Hp)} {f g : Nat → Hp → Option α} (hf : ∀ x h, f x h = g x h) : bR o f = bR o g := by rw [show f = g from funext fun x => funext fun h => hf x h]
theorem acp_i {h : Hp} {a : Nat} {sp : Int32} {b : Nat} {dp n : Int32} {rest : List Value} {hc : (rest.map Value.category).sum ≤ 8} {F f : Hp → Option α} (hf : ∀ x, F x = f x) : gd (¬ sp < 0 ∧ ¬ dp < 0 ∧ ¬ n < 0 ∧ sp.toNatClampNeg + n.toNatClampNeg ≤ (hS h a).2 ∧ dp.toNatClampNeg + n.toNatClampNeg ≤ (hS h b).2 ∧ (rest.map Value.category).sum ≤ 8)
    (if (hS h a).1 = 50 ∧ (hS h b).1 = 50 then F (rI h b (cpy (hI h a) (hI h b) sp.toNatClampNeg dp.toNatClampNeg n.toNatClampNeg)) else if (hS h a).1 = 51 ∧ (hS h b).1 = 51 then F (rJ h b (cpy (hJ h a) (hJ h b) sp.toNatClampNeg dp.toNatClampNeg n.toNatClampNeg)) else none) = acp h a sp b dp n hc f := by
  rw [show F = f from funext hf]
  rfl
end CG
