theorem kC_X4_feed : Cond.code yX4_feed cX4_feed 2 (some .int) ∈ TB := tb_of 181 (by decide +kernel) rfl
theorem kM_RL_13_X4_feed : Cond.methodLink RL 13 yX4_feed ∈ TB := tb_of 178 (by decide +kernel) rfl
theorem kI_X4_feed : Cond.instanceMethod yX4_feed ∈ TB := tb_of 179 (by decide +kernel) rfl
theorem kS_X4_feed : Cond.selects RX4 yX4_feed yX4_feed ∈ TB := tb_of 180 (by decide +kernel) rfl
theorem kC_X5_feed : Cond.code yX5_feed cX5_feed 2 (some .int) ∈ TB := tb_of 838 (by decide +kernel) rfl
theorem kM_RL_17_X5_feed : Cond.methodLink RL 17 yX5_feed ∈ TB := tb_of 835 (by decide +kernel) rfl
theorem kI_X5_feed : Cond.instanceMethod yX5_feed ∈ TB := tb_of 836 (by decide +kernel) rfl
theorem kS_X5_feed : Cond.selects RX5 yX5_feed yX5_feed ∈ TB := tb_of 837 (by decide +kernel) rfl
theorem kC_X4_beach : Cond.code yX4_beach cX4_beach 4 (some .int) ∈ TB := tb_of 201 (by decide +kernel) rfl
theorem kM_RL_18_X4_beach : Cond.methodLink RL 18 yX4_beach ∈ TB := tb_of 198 (by decide +kernel) rfl
theorem kI_X4_beach : Cond.instanceMethod yX4_beach ∈ TB := tb_of 199 (by decide +kernel) rfl
theorem kS_X4_beach : Cond.selects RX4 yX4_beach yX4_beach ∈ TB := tb_of 200 (by decide +kernel) rfl
theorem kC_X5_beach : Cond.code yX5_beach cX5_beach 2 (some .int) ∈ TB := tb_of 846 (by decide +kernel) rfl
theorem kM_RL_22_X5_beach : Cond.methodLink RL 22 yX5_beach ∈ TB := tb_of 843 (by decide +kernel) rfl
theorem kI_X5_beach : Cond.instanceMethod yX5_beach ∈ TB := tb_of 844 (by decide +kernel) rfl
theorem kS_X5_beach : Cond.selects RX5 yX5_beach yX5_beach ∈ TB := tb_of 845 (by decide +kernel) rfl
theorem kC_X4_workOf : Cond.code yX4_workOf cX4_workOf 3 (some .int) ∈ TB := tb_of 349 (by decide +kernel) rfl
theorem kM_RL_23_X4_workOf : Cond.methodLink RL 23 yX4_workOf ∈ TB := tb_of 346 (by decide +kernel) rfl
theorem kI_X4_workOf : Cond.instanceMethod yX4_workOf ∈ TB := tb_of 347 (by decide +kernel) rfl
theorem kS_X4_workOf : Cond.selects RX4 yX4_workOf yX4_workOf ∈ TB := tb_of 348 (by decide +kernel) rfl
theorem kC_X5_workOf : Cond.code yX5_workOf cX5_workOf 3 (some .int) ∈ TB := tb_of 983 (by decide +kernel) rfl
theorem kM_RL_27_X5_workOf : Cond.methodLink RL 27 yX5_workOf ∈ TB := tb_of 980 (by decide +kernel) rfl
theorem kI_X5_workOf : Cond.instanceMethod yX5_workOf ∈ TB := tb_of 981 (by decide +kernel) rfl
theorem kS_X5_workOf : Cond.selects RX5 yX5_workOf yX5_workOf ∈ TB := tb_of 982 (by decide +kernel) rfl
theorem kC_X4_at : Cond.code yX4_at cX4_at 2 (some .int) ∈ TB := tb_of 383 (by decide +kernel) rfl
theorem kM_RL_28_X4_at : Cond.methodLink RL 28 yX4_at ∈ TB := tb_of 380 (by decide +kernel) rfl
theorem kI_X4_at : Cond.instanceMethod yX4_at ∈ TB := tb_of 381 (by decide +kernel) rfl
theorem kS_X4_at : Cond.selects RX4 yX4_at yX4_at ∈ TB := tb_of 382 (by decide +kernel) rfl
theorem kC_X5_at : Cond.code yX5_at cX5_at 2 (some .int) ∈ TB := tb_of 988 (by decide +kernel) rfl
theorem kM_RL_31_X5_at : Cond.methodLink RL 31 yX5_at ∈ TB := tb_of 985 (by decide +kernel) rfl
theorem kI_X5_at : Cond.instanceMethod yX5_at ∈ TB := tb_of 986 (by decide +kernel) rfl
theorem kS_X5_at : Cond.selects RX5 yX5_at yX5_at ∈ TB := tb_of 987 (by decide +kernel) rfl
theorem kC_X4_work : Cond.code yX4_work cX4_work 4 (some .int) ∈ TB := tb_of 389 (by decide +kernel) rfl
theorem kM_RL_32_X4_work : Cond.methodLink RL 32 yX4_work ∈ TB := tb_of 386 (by decide +kernel) rfl
theorem kI_X4_work : Cond.instanceMethod yX4_work ∈ TB := tb_of 387 (by decide +kernel) rfl
theorem kS_X4_work : Cond.selects RX4 yX4_work yX4_work ∈ TB := tb_of 388 (by decide +kernel) rfl
theorem kC_X5_work : Cond.code yX5_work cX5_work 5 (some .int) ∈ TB := tb_of 992 (by decide +kernel) rfl
theorem kM_RL_36_X5_work : Cond.methodLink RL 36 yX5_work ∈ TB := tb_of 989 (by decide +kernel) rfl
theorem kI_X5_work : Cond.instanceMethod yX5_work ∈ TB := tb_of 990 (by decide +kernel) rfl
theorem kS_X5_work : Cond.selects RX5 yX5_work yX5_work ∈ TB := tb_of 991 (by decide +kernel) rfl
theorem kC_X4_razes : Cond.code yX4_razes cX4_razes 3 (some .int) ∈ TB := tb_of 395 (by decide +kernel) rfl
theorem kM_RL_37_X4_razes : Cond.methodLink RL 37 yX4_razes ∈ TB := tb_of 392 (by decide +kernel) rfl
theorem kI_X4_razes : Cond.instanceMethod yX4_razes ∈ TB := tb_of 393 (by decide +kernel) rfl
theorem kS_X4_razes : Cond.selects RX4 yX4_razes yX4_razes ∈ TB := tb_of 394 (by decide +kernel) rfl
theorem kC_X5_razes : Cond.code yX5_razes cX5_razes 3 (some .int) ∈ TB := tb_of 1000 (by decide +kernel) rfl
theorem kM_RL_40_X5_razes : Cond.methodLink RL 40 yX5_razes ∈ TB := tb_of 997 (by decide +kernel) rfl
theorem kI_X5_razes : Cond.instanceMethod yX5_razes ∈ TB := tb_of 998 (by decide +kernel) rfl
theorem kS_X5_razes : Cond.selects RX5 yX5_razes yX5_razes ∈ TB := tb_of 999 (by decide +kernel) rfl
theorem kC_X4_fixes : Cond.code yX4_fixes cX4_fixes 4 (some .int) ∈ TB := tb_of 423 (by decide +kernel) rfl
theorem kM_RL_41_X4_fixes : Cond.methodLink RL 41 yX4_fixes ∈ TB := tb_of 420 (by decide +kernel) rfl
theorem kI_X4_fixes : Cond.instanceMethod yX4_fixes ∈ TB := tb_of 421 (by decide +kernel) rfl
theorem kS_X4_fixes : Cond.selects RX4 yX4_fixes yX4_fixes ∈ TB := tb_of 422 (by decide +kernel) rfl
theorem kC_X5_fixes : Cond.code yX5_fixes cX5_fixes 4 (some .int) ∈ TB := tb_of 1015 (by decide +kernel) rfl
theorem kM_RL_44_X5_fixes : Cond.methodLink RL 44 yX5_fixes ∈ TB := tb_of 1012 (by decide +kernel) rfl
theorem kI_X5_fixes : Cond.instanceMethod yX5_fixes ∈ TB := tb_of 1013 (by decide +kernel) rfl
theorem kS_X5_fixes : Cond.selects RX5 yX5_fixes yX5_fixes ∈ TB := tb_of 1014 (by decide +kernel) rfl
theorem kC_X4_pays : Cond.code yX4_pays cX4_pays 2 (some .int) ∈ TB := tb_of 428 (by decide +kernel) rfl
theorem kM_RL_45_X4_pays : Cond.methodLink RL 45 yX4_pays ∈ TB := tb_of 425 (by decide +kernel) rfl
theorem kI_X4_pays : Cond.instanceMethod yX4_pays ∈ TB := tb_of 426 (by decide +kernel) rfl
theorem kS_X4_pays : Cond.selects RX4 yX4_pays yX4_pays ∈ TB := tb_of 427 (by decide +kernel) rfl
theorem kC_X5_pays : Cond.code yX5_pays cX5_pays 1 (some .int) ∈ TB := tb_of 1019 (by decide +kernel) rfl
theorem kM_RL_48_X5_pays : Cond.methodLink RL 48 yX5_pays ∈ TB := tb_of 1016 (by decide +kernel) rfl
theorem kI_X5_pays : Cond.instanceMethod yX5_pays ∈ TB := tb_of 1017 (by decide +kernel) rfl
theorem kS_X5_pays : Cond.selects RX5 yX5_pays yX5_pays ∈ TB := tb_of 1018 (by decide +kernel) rfl
theorem kC_X4_hours : Cond.code yX4_hours cX4_hours 2 (some .int) ∈ TB := tb_of 433 (by decide +kernel) rfl
theorem kM_RL_49_X4_hours : Cond.methodLink RL 49 yX4_hours ∈ TB := tb_of 430 (by decide +kernel) rfl
theorem kI_X4_hours : Cond.instanceMethod yX4_hours ∈ TB := tb_of 431 (by decide +kernel) rfl
theorem kS_X4_hours : Cond.selects RX4 yX4_hours yX4_hours ∈ TB := tb_of 432 (by decide +kernel) rfl
theorem kC_X5_hours : Cond.code yX5_hours cX5_hours 3 (some .int) ∈ TB := tb_of 1023 (by decide +kernel) rfl
theorem kM_RL_52_X5_hours : Cond.methodLink RL 52 yX5_hours ∈ TB := tb_of 1020 (by decide +kernel) rfl
theorem kI_X5_hours : Cond.instanceMethod yX5_hours ∈ TB := tb_of 1021 (by decide +kernel) rfl
theorem kS_X5_hours : Cond.selects RX5 yX5_hours yX5_hours ∈ TB := tb_of 1022 (by decide +kernel) rfl
theorem kC_X4_back : Cond.code yX4_back cX4_back 1 (some .int) ∈ TB := tb_of 438 (by decide +kernel) rfl
theorem kM_RL_53_X4_back : Cond.methodLink RL 53 yX4_back ∈ TB := tb_of 435 (by decide +kernel) rfl
theorem kI_X4_back : Cond.instanceMethod yX4_back ∈ TB := tb_of 436 (by decide +kernel) rfl
theorem kS_X4_back : Cond.selects RX4 yX4_back yX4_back ∈ TB := tb_of 437 (by decide +kernel) rfl
theorem kC_X5_back : Cond.code yX5_back cX5_back 2 (some .int) ∈ TB := tb_of 979 (by decide +kernel) rfl
theorem kM_RL_56_X5_back : Cond.methodLink RL 56 yX5_back ∈ TB := tb_of 976 (by decide +kernel) rfl
theorem kI_X5_back : Cond.instanceMethod yX5_back ∈ TB := tb_of 977 (by decide +kernel) rfl
theorem kS_X5_back : Cond.selects RX5 yX5_back yX5_back ∈ TB := tb_of 978 (by decide +kernel) rfl
theorem kC_X4_level : Cond.code yX4_level cX4_level 3 (some .int) ∈ TB := tb_of 442 (by decide +kernel) rfl
theorem kM_RL_57_X4_level : Cond.methodLink RL 57 yX4_level ∈ TB := tb_of 439 (by decide +kernel) rfl
theorem kI_X4_level : Cond.instanceMethod yX4_level ∈ TB := tb_of 440 (by decide +kernel) rfl
theorem kS_X4_level : Cond.selects RX4 yX4_level yX4_level ∈ TB := tb_of 441 (by decide +kernel) rfl
theorem kC_X5_level : Cond.code yX5_level cX5_level 3 (some .int) ∈ TB := tb_of 1027 (by decide +kernel) rfl
theorem kM_RL_60_X5_level : Cond.methodLink RL 60 yX5_level ∈ TB := tb_of 1024 (by decide +kernel) rfl
theorem kI_X5_level : Cond.instanceMethod yX5_level ∈ TB := tb_of 1025 (by decide +kernel) rfl
theorem kS_X5_level : Cond.selects RX5 yX5_level yX5_level ∈ TB := tb_of 1026 (by decide +kernel) rfl
theorem kC_X4_wet : Cond.code yX4_wet cX4_wet 3 (some .int) ∈ TB := tb_of 450 (by decide +kernel) rfl
theorem kM_RL_61_X4_wet : Cond.methodLink RL 61 yX4_wet ∈ TB := tb_of 447 (by decide +kernel) rfl
theorem kI_X4_wet : Cond.instanceMethod yX4_wet ∈ TB := tb_of 448 (by decide +kernel) rfl
theorem kS_X4_wet : Cond.selects RX4 yX4_wet yX4_wet ∈ TB := tb_of 449 (by decide +kernel) rfl
theorem kC_X5_wet : Cond.code yX5_wet cX5_wet 4 (some .int) ∈ TB := tb_of 1031 (by decide +kernel) rfl
theorem kM_RL_64_X5_wet : Cond.methodLink RL 64 yX5_wet ∈ TB := tb_of 1028 (by decide +kernel) rfl
theorem kI_X5_wet : Cond.instanceMethod yX5_wet ∈ TB := tb_of 1029 (by decide +kernel) rfl
theorem kS_X5_wet : Cond.selects RX5 yX5_wet yX5_wet ∈ TB := tb_of 1030 (by decide +kernel) rfl
theorem kC_X4_then : Cond.code yX4_then cX4_then 4 (some .int) ∈ TB := tb_of 462 (by decide +kernel) rfl
theorem kM_RL_65_X4_then : Cond.methodLink RL 65 yX4_then ∈ TB := tb_of 459 (by decide +kernel) rfl
theorem kI_X4_then : Cond.instanceMethod yX4_then ∈ TB := tb_of 460 (by decide +kernel) rfl
theorem kS_X4_then : Cond.selects RX4 yX4_then yX4_then ∈ TB := tb_of 461 (by decide +kernel) rfl
theorem kC_X5_then : Cond.code yX5_then cX5_then 5 (some .int) ∈ TB := tb_of 1039 (by decide +kernel) rfl
theorem kM_RL_68_X5_then : Cond.methodLink RL 68 yX5_then ∈ TB := tb_of 1036 (by decide +kernel) rfl
theorem kI_X5_then : Cond.instanceMethod yX5_then ∈ TB := tb_of 1037 (by decide +kernel) rfl
theorem kS_X5_then : Cond.selects RX5 yX5_then yX5_then ∈ TB := tb_of 1038 (by decide +kernel) rfl
theorem kC_X4_floods : Cond.code yX4_floods cX4_floods 3 (some .int) ∈ TB := tb_of 466 (by decide +kernel) rfl
theorem kM_RL_69_X4_floods : Cond.methodLink RL 69 yX4_floods ∈ TB := tb_of 463 (by decide +kernel) rfl
theorem kI_X4_floods : Cond.instanceMethod yX4_floods ∈ TB := tb_of 464 (by decide +kernel) rfl
theorem kS_X4_floods : Cond.selects RX4 yX4_floods yX4_floods ∈ TB := tb_of 465 (by decide +kernel) rfl
theorem kC_X5_floods : Cond.code yX5_floods cX5_floods 4 (some .int) ∈ TB := tb_of 1046 (by decide +kernel) rfl
theorem kM_RL_72_X5_floods : Cond.methodLink RL 72 yX5_floods ∈ TB := tb_of 1043 (by decide +kernel) rfl
theorem kI_X5_floods : Cond.instanceMethod yX5_floods ∈ TB := tb_of 1044 (by decide +kernel) rfl
theorem kS_X5_floods : Cond.selects RX5 yX5_floods yX5_floods ∈ TB := tb_of 1045 (by decide +kernel) rfl
theorem kC_X4_dry : Cond.code yX4_dry cX4_dry 2 (some .int) ∈ TB := tb_of 471 (by decide +kernel) rfl
theorem kM_RL_73_X4_dry : Cond.methodLink RL 73 yX4_dry ∈ TB := tb_of 468 (by decide +kernel) rfl
theorem kI_X4_dry : Cond.instanceMethod yX4_dry ∈ TB := tb_of 469 (by decide +kernel) rfl
theorem kS_X4_dry : Cond.selects RX4 yX4_dry yX4_dry ∈ TB := tb_of 470 (by decide +kernel) rfl
theorem kC_X5_dry : Cond.code yX5_dry cX5_dry 2 (some .int) ∈ TB := tb_of 1050 (by decide +kernel) rfl
theorem kM_RL_76_X5_dry : Cond.methodLink RL 76 yX5_dry ∈ TB := tb_of 1047 (by decide +kernel) rfl
theorem kI_X5_dry : Cond.instanceMethod yX5_dry ∈ TB := tb_of 1048 (by decide +kernel) rfl
theorem kS_X5_dry : Cond.selects RX5 yX5_dry yX5_dry ∈ TB := tb_of 1049 (by decide +kernel) rfl
theorem kC_X4_driest : Cond.code yX4_driest cX4_driest 6 (some .int) ∈ TB := tb_of 479 (by decide +kernel) rfl
theorem kM_RL_77_X4_driest : Cond.methodLink RL 77 yX4_driest ∈ TB := tb_of 476 (by decide +kernel) rfl
theorem kI_X4_driest : Cond.instanceMethod yX4_driest ∈ TB := tb_of 477 (by decide +kernel) rfl
theorem kS_X4_driest : Cond.selects RX4 yX4_driest yX4_driest ∈ TB := tb_of 478 (by decide +kernel) rfl
theorem kC_X5_driest : Cond.code yX5_driest cX5_driest 4 (some .int) ∈ TB := tb_of 1058 (by decide +kernel) rfl
theorem kM_RL_80_X5_driest : Cond.methodLink RL 80 yX5_driest ∈ TB := tb_of 1055 (by decide +kernel) rfl
theorem kI_X5_driest : Cond.instanceMethod yX5_driest ∈ TB := tb_of 1056 (by decide +kernel) rfl
theorem kS_X5_driest : Cond.selects RX5 yX5_driest yX5_driest ∈ TB := tb_of 1057 (by decide +kernel) rfl
theorem kC_X4_falls : Cond.code yX4_falls cX4_falls 4 (some .int) ∈ TB := tb_of 483 (by decide +kernel) rfl
theorem kM_RL_81_X4_falls : Cond.methodLink RL 81 yX4_falls ∈ TB := tb_of 480 (by decide +kernel) rfl
theorem kI_X4_falls : Cond.instanceMethod yX4_falls ∈ TB := tb_of 481 (by decide +kernel) rfl
theorem kS_X4_falls : Cond.selects RX4 yX4_falls yX4_falls ∈ TB := tb_of 482 (by decide +kernel) rfl
theorem kC_X5_falls : Cond.code yX5_falls cX5_falls 6 (some .int) ∈ TB := tb_of 1062 (by decide +kernel) rfl
theorem kM_RL_84_X5_falls : Cond.methodLink RL 84 yX5_falls ∈ TB := tb_of 1059 (by decide +kernel) rfl
theorem kI_X5_falls : Cond.instanceMethod yX5_falls ∈ TB := tb_of 1060 (by decide +kernel) rfl
theorem kS_X5_falls : Cond.selects RX5 yX5_falls yX5_falls ∈ TB := tb_of 1061 (by decide +kernel) rfl
theorem kC_X4_keep : Cond.code yX4_keep cX4_keep 7 (some .int) ∈ TB := tb_of 491 (by decide +kernel) rfl
theorem kM_RL_85_X4_keep : Cond.methodLink RL 85 yX4_keep ∈ TB := tb_of 488 (by decide +kernel) rfl
theorem kI_X4_keep : Cond.instanceMethod yX4_keep ∈ TB := tb_of 489 (by decide +kernel) rfl
theorem kS_X4_keep : Cond.selects RX4 yX4_keep yX4_keep ∈ TB := tb_of 490 (by decide +kernel) rfl
theorem kC_X5_keep : Cond.code yX5_keep cX5_keep 6 (some .int) ∈ TB := tb_of 1071 (by decide +kernel) rfl
theorem kM_RL_88_X5_keep : Cond.methodLink RL 88 yX5_keep ∈ TB := tb_of 1068 (by decide +kernel) rfl
theorem kI_X5_keep : Cond.instanceMethod yX5_keep ∈ TB := tb_of 1069 (by decide +kernel) rfl
theorem kS_X5_keep : Cond.selects RX5 yX5_keep yX5_keep ∈ TB := tb_of 1070 (by decide +kernel) rfl
theorem kC_X4_best : Cond.code yX4_best cX4_best 8 (some .int) ∈ TB := tb_of 507 (by decide +kernel) rfl
theorem kM_RL_89_X4_best : Cond.methodLink RL 89 yX4_best ∈ TB := tb_of 504 (by decide +kernel) rfl
theorem kI_X4_best : Cond.instanceMethod yX4_best ∈ TB := tb_of 505 (by decide +kernel) rfl
theorem kS_X4_best : Cond.selects RX4 yX4_best yX4_best ∈ TB := tb_of 506 (by decide +kernel) rfl
theorem kC_X5_best : Cond.code yX5_best cX5_best 9 (some .int) ∈ TB := tb_of 1087 (by decide +kernel) rfl
theorem kM_RL_93_X5_best : Cond.methodLink RL 93 yX5_best ∈ TB := tb_of 1084 (by decide +kernel) rfl
theorem kI_X5_best : Cond.instanceMethod yX5_best ∈ TB := tb_of 1085 (by decide +kernel) rfl
theorem kS_X5_best : Cond.selects RX5 yX5_best yX5_best ∈ TB := tb_of 1086 (by decide +kernel) rfl
theorem kC_X4_dredge : Cond.code yX4_dredge cX4_dredge 6 (some .int) ∈ TB := tb_of 511 (by decide +kernel) rfl
theorem kM_RL_94_X4_dredge : Cond.methodLink RL 94 yX4_dredge ∈ TB := tb_of 508 (by decide +kernel) rfl
theorem kI_X4_dredge : Cond.instanceMethod yX4_dredge ∈ TB := tb_of 509 (by decide +kernel) rfl
theorem kS_X4_dredge : Cond.selects RX4 yX4_dredge yX4_dredge ∈ TB := tb_of 510 (by decide +kernel) rfl
theorem kC_X5_dredge : Cond.code yX5_dredge cX5_dredge 7 (some .int) ∈ TB := tb_of 1091 (by decide +kernel) rfl
theorem kM_RL_97_X5_dredge : Cond.methodLink RL 97 yX5_dredge ∈ TB := tb_of 1088 (by decide +kernel) rfl
theorem kI_X5_dredge : Cond.instanceMethod yX5_dredge ∈ TB := tb_of 1089 (by decide +kernel) rfl
theorem kS_X5_dredge : Cond.selects RX5 yX5_dredge yX5_dredge ∈ TB := tb_of 1090 (by decide +kernel) rfl
theorem kC_X4_round : Cond.code yX4_round cX4_round 6 (some .int) ∈ TB := tb_of 515 (by decide +kernel) rfl
theorem kM_RL_98_X4_round : Cond.methodLink RL 98 yX4_round ∈ TB := tb_of 512 (by decide +kernel) rfl
theorem kI_X4_round : Cond.instanceMethod yX4_round ∈ TB := tb_of 513 (by decide +kernel) rfl
theorem kS_X4_round : Cond.selects RX4 yX4_round yX4_round ∈ TB := tb_of 514 (by decide +kernel) rfl
theorem kC_X5_round : Cond.code yX5_round cX5_round 5 (some .int) ∈ TB := tb_of 1095 (by decide +kernel) rfl
theorem kM_RL_101_X5_round : Cond.methodLink RL 101 yX5_round ∈ TB := tb_of 1092 (by decide +kernel) rfl
theorem kI_X5_round : Cond.instanceMethod yX5_round ∈ TB := tb_of 1093 (by decide +kernel) rfl
theorem kS_X5_round : Cond.selects RX5 yX5_round yX5_round ∈ TB := tb_of 1094 (by decide +kernel) rfl
theorem kC_X4_assessed : Cond.code yX4_assessed cX4_assessed 2 (some .int) ∈ TB := tb_of 539 (by decide +kernel) rfl
theorem kM_RL_102_X4_assessed : Cond.methodLink RL 102 yX4_assessed ∈ TB := tb_of 536 (by decide +kernel) rfl
theorem kI_X4_assessed : Cond.instanceMethod yX4_assessed ∈ TB := tb_of 537 (by decide +kernel) rfl
theorem kS_X4_assessed : Cond.selects RX4 yX4_assessed yX4_assessed ∈ TB := tb_of 538 (by decide +kernel) rfl
theorem kC_X5_assessed : Cond.code yX5_assessed cX5_assessed 2 (some .int) ∈ TB := tb_of 1114 (by decide +kernel) rfl
theorem kM_RL_105_X5_assessed : Cond.methodLink RL 105 yX5_assessed ∈ TB := tb_of 1111 (by decide +kernel) rfl
theorem kI_X5_assessed : Cond.instanceMethod yX5_assessed ∈ TB := tb_of 1112 (by decide +kernel) rfl
theorem kS_X5_assessed : Cond.selects RX5 yX5_assessed yX5_assessed ∈ TB := tb_of 1113 (by decide +kernel) rfl
theorem kC_X4_whatWas : Cond.code yX4_whatWas cX4_whatWas 8 (some .int) ∈ TB := tb_of 558 (by decide +kernel) rfl
theorem kM_RL_106_X4_whatWas : Cond.methodLink RL 106 yX4_whatWas ∈ TB := tb_of 555 (by decide +kernel) rfl
theorem kI_X4_whatWas : Cond.instanceMethod yX4_whatWas ∈ TB := tb_of 556 (by decide +kernel) rfl
theorem kS_X4_whatWas : Cond.selects RX4 yX4_whatWas yX4_whatWas ∈ TB := tb_of 557 (by decide +kernel) rfl
theorem kC_X5_whatWas : Cond.code yX5_whatWas cX5_whatWas 6 (some .int) ∈ TB := tb_of 1130 (by decide +kernel) rfl
theorem kM_RL_109_X5_whatWas : Cond.methodLink RL 109 yX5_whatWas ∈ TB := tb_of 1127 (by decide +kernel) rfl
theorem kI_X5_whatWas : Cond.instanceMethod yX5_whatWas ∈ TB := tb_of 1128 (by decide +kernel) rfl
theorem kS_X5_whatWas : Cond.selects RX5 yX5_whatWas yX5_whatWas ∈ TB := tb_of 1129 (by decide +kernel) rfl
theorem kC_X4_howHigh : Cond.code yX4_howHigh cX4_howHigh 3 (some .int) ∈ TB := tb_of 570 (by decide +kernel) rfl
theorem kM_RL_110_X4_howHigh : Cond.methodLink RL 110 yX4_howHigh ∈ TB := tb_of 567 (by decide +kernel) rfl
theorem kI_X4_howHigh : Cond.instanceMethod yX4_howHigh ∈ TB := tb_of 568 (by decide +kernel) rfl
theorem kS_X4_howHigh : Cond.selects RX4 yX4_howHigh yX4_howHigh ∈ TB := tb_of 569 (by decide +kernel) rfl
theorem kC_X5_howHigh : Cond.code yX5_howHigh cX5_howHigh 5 (some .int) ∈ TB := tb_of 1138 (by decide +kernel) rfl
theorem kM_RL_113_X5_howHigh : Cond.methodLink RL 113 yX5_howHigh ∈ TB := tb_of 1135 (by decide +kernel) rfl
theorem kI_X5_howHigh : Cond.instanceMethod yX5_howHigh ∈ TB := tb_of 1136 (by decide +kernel) rfl
theorem kS_X5_howHigh : Cond.selects RX5 yX5_howHigh yX5_howHigh ∈ TB := tb_of 1137 (by decide +kernel) rfl
theorem kC_X4_two : Cond.code yX4_two cX4_two 9 (some .int) ∈ TB := tb_of 578 (by decide +kernel) rfl
theorem kM_RL_114_X4_two : Cond.methodLink RL 114 yX4_two ∈ TB := tb_of 575 (by decide +kernel) rfl
theorem kI_X4_two : Cond.instanceMethod yX4_two ∈ TB := tb_of 576 (by decide +kernel) rfl
theorem kS_X4_two : Cond.selects RX4 yX4_two yX4_two ∈ TB := tb_of 577 (by decide +kernel) rfl
theorem kC_X5_two : Cond.code yX5_two cX5_two 7 (some .int) ∈ TB := tb_of 1142 (by decide +kernel) rfl
theorem kM_RL_117_X5_two : Cond.methodLink RL 117 yX5_two ∈ TB := tb_of 1139 (by decide +kernel) rfl
theorem kI_X5_two : Cond.instanceMethod yX5_two ∈ TB := tb_of 1140 (by decide +kernel) rfl
theorem kS_X5_two : Cond.selects RX5 yX5_two yX5_two ∈ TB := tb_of 1141 (by decide +kernel) rfl
theorem kC_X4_swells : Cond.code yX4_swells cX4_swells 9 (some .long) ∈ TB := tb_of 595 (by decide +kernel) rfl
theorem kM_RL_118_X4_swells : Cond.methodLink RL 118 yX4_swells ∈ TB := tb_of 592 (by decide +kernel) rfl
theorem kI_X4_swells : Cond.instanceMethod yX4_swells ∈ TB := tb_of 593 (by decide +kernel) rfl
theorem kS_X4_swells : Cond.selects RX4 yX4_swells yX4_swells ∈ TB := tb_of 594 (by decide +kernel) rfl
theorem kC_X5_swells : Cond.code yX5_swells cX5_swells 14 (some .long) ∈ TB := tb_of 1146 (by decide +kernel) rfl
theorem kM_RL_122_X5_swells : Cond.methodLink RL 122 yX5_swells ∈ TB := tb_of 1143 (by decide +kernel) rfl
theorem kI_X5_swells : Cond.instanceMethod yX5_swells ∈ TB := tb_of 1144 (by decide +kernel) rfl
theorem kS_X5_swells : Cond.selects RX5 yX5_swells yX5_swells ∈ TB := tb_of 1145 (by decide +kernel) rfl
theorem kC_X4_shares : Cond.code yX4_shares cX4_shares 3 (some .int) ∈ TB := tb_of 610 (by decide +kernel) rfl
theorem kM_RL_123_X4_shares : Cond.methodLink RL 123 yX4_shares ∈ TB := tb_of 607 (by decide +kernel) rfl
theorem kI_X4_shares : Cond.instanceMethod yX4_shares ∈ TB := tb_of 608 (by decide +kernel) rfl
theorem kS_X4_shares : Cond.selects RX4 yX4_shares yX4_shares ∈ TB := tb_of 609 (by decide +kernel) rfl
theorem kC_X5_shares : Cond.code yX5_shares cX5_shares 4 (some .int) ∈ TB := tb_of 1157 (by decide +kernel) rfl
theorem kM_RL_126_X5_shares : Cond.methodLink RL 126 yX5_shares ∈ TB := tb_of 1154 (by decide +kernel) rfl
theorem kI_X5_shares : Cond.instanceMethod yX5_shares ∈ TB := tb_of 1155 (by decide +kernel) rfl
theorem kS_X5_shares : Cond.selects RX5 yX5_shares yX5_shares ∈ TB := tb_of 1156 (by decide +kernel) rfl
theorem kC_X4_weakest : Cond.code yX4_weakest cX4_weakest 2 (some .int) ∈ TB := tb_of 614 (by decide +kernel) rfl
theorem kM_RL_127_X4_weakest : Cond.methodLink RL 127 yX4_weakest ∈ TB := tb_of 611 (by decide +kernel) rfl
theorem kI_X4_weakest : Cond.instanceMethod yX4_weakest ∈ TB := tb_of 612 (by decide +kernel) rfl
theorem kS_X4_weakest : Cond.selects RX4 yX4_weakest yX4_weakest ∈ TB := tb_of 613 (by decide +kernel) rfl
theorem kC_X5_weakest : Cond.code yX5_weakest cX5_weakest 2 (some .int) ∈ TB := tb_of 1161 (by decide +kernel) rfl
theorem kM_RL_130_X5_weakest : Cond.methodLink RL 130 yX5_weakest ∈ TB := tb_of 1158 (by decide +kernel) rfl
theorem kI_X5_weakest : Cond.instanceMethod yX5_weakest ∈ TB := tb_of 1159 (by decide +kernel) rfl
theorem kS_X5_weakest : Cond.selects RX5 yX5_weakest yX5_weakest ∈ TB := tb_of 1160 (by decide +kernel) rfl
theorem kC_X4_mean : Cond.code yX4_mean cX4_mean 2 (some .long) ∈ TB := tb_of 641 (by decide +kernel) rfl
theorem kM_RL_131_X4_mean : Cond.methodLink RL 131 yX4_mean ∈ TB := tb_of 638 (by decide +kernel) rfl
theorem kI_X4_mean : Cond.instanceMethod yX4_mean ∈ TB := tb_of 639 (by decide +kernel) rfl
theorem kS_X4_mean : Cond.selects RX4 yX4_mean yX4_mean ∈ TB := tb_of 640 (by decide +kernel) rfl
theorem kC_X5_mean : Cond.code yX5_mean cX5_mean 3 (some .long) ∈ TB := tb_of 1180 (by decide +kernel) rfl
theorem kM_RL_135_X5_mean : Cond.methodLink RL 135 yX5_mean ∈ TB := tb_of 1177 (by decide +kernel) rfl
theorem kI_X5_mean : Cond.instanceMethod yX5_mean ∈ TB := tb_of 1178 (by decide +kernel) rfl
theorem kS_X5_mean : Cond.selects RX5 yX5_mean yX5_mean ∈ TB := tb_of 1179 (by decide +kernel) rfl
theorem kC_X4_low : Cond.code yX4_low cX4_low 2 (some .int) ∈ TB := tb_of 645 (by decide +kernel) rfl
theorem kM_RL_136_X4_low : Cond.methodLink RL 136 yX4_low ∈ TB := tb_of 642 (by decide +kernel) rfl
theorem kI_X4_low : Cond.instanceMethod yX4_low ∈ TB := tb_of 643 (by decide +kernel) rfl
theorem kS_X4_low : Cond.selects RX4 yX4_low yX4_low ∈ TB := tb_of 644 (by decide +kernel) rfl
theorem kC_X5_low : Cond.code yX5_low cX5_low 2 (some .int) ∈ TB := tb_of 1184 (by decide +kernel) rfl
theorem kM_RL_139_X5_low : Cond.methodLink RL 139 yX5_low ∈ TB := tb_of 1181 (by decide +kernel) rfl
theorem kI_X5_low : Cond.instanceMethod yX5_low ∈ TB := tb_of 1182 (by decide +kernel) rfl
theorem kS_X5_low : Cond.selects RX5 yX5_low yX5_low ∈ TB := tb_of 1183 (by decide +kernel) rfl
theorem kC_X4_sand : Cond.code yX4_sand cX4_sand 2 (some .int) ∈ TB := tb_of 649 (by decide +kernel) rfl
theorem kM_RL_140_X4_sand : Cond.methodLink RL 140 yX4_sand ∈ TB := tb_of 646 (by decide +kernel) rfl
theorem kI_X4_sand : Cond.instanceMethod yX4_sand ∈ TB := tb_of 647 (by decide +kernel) rfl
theorem kS_X4_sand : Cond.selects RX4 yX4_sand yX4_sand ∈ TB := tb_of 648 (by decide +kernel) rfl
theorem kC_X5_sand : Cond.code yX5_sand cX5_sand 3 (some .int) ∈ TB := tb_of 1188 (by decide +kernel) rfl
theorem kM_RL_143_X5_sand : Cond.methodLink RL 143 yX5_sand ∈ TB := tb_of 1185 (by decide +kernel) rfl
theorem kI_X5_sand : Cond.instanceMethod yX5_sand ∈ TB := tb_of 1186 (by decide +kernel) rfl
theorem kS_X5_sand : Cond.selects RX5 yX5_sand yX5_sand ∈ TB := tb_of 1187 (by decide +kernel) rfl
theorem kC_X4_mended : Cond.code yX4_mended cX4_mended 5 (some .int) ∈ TB := tb_of 653 (by decide +kernel) rfl
theorem kM_RL_144_X4_mended : Cond.methodLink RL 144 yX4_mended ∈ TB := tb_of 650 (by decide +kernel) rfl
theorem kI_X4_mended : Cond.instanceMethod yX4_mended ∈ TB := tb_of 651 (by decide +kernel) rfl
theorem kS_X4_mended : Cond.selects RX4 yX4_mended yX4_mended ∈ TB := tb_of 652 (by decide +kernel) rfl
theorem kC_X5_mended : Cond.code yX5_mended cX5_mended 6 (some .int) ∈ TB := tb_of 1192 (by decide +kernel) rfl
theorem kM_RL_147_X5_mended : Cond.methodLink RL 147 yX5_mended ∈ TB := tb_of 1189 (by decide +kernel) rfl
theorem kI_X5_mended : Cond.instanceMethod yX5_mended ∈ TB := tb_of 1190 (by decide +kernel) rfl
theorem kS_X5_mended : Cond.selects RX5 yX5_mended yX5_mended ∈ TB := tb_of 1191 (by decide +kernel) rfl
theorem kC_X4_pairs : Cond.code yX4_pairs cX4_pairs 2 (some .int) ∈ TB := tb_of 658 (by decide +kernel) rfl
theorem kM_RL_148_X4_pairs : Cond.methodLink RL 148 yX4_pairs ∈ TB := tb_of 655 (by decide +kernel) rfl
theorem kI_X4_pairs : Cond.instanceMethod yX4_pairs ∈ TB := tb_of 656 (by decide +kernel) rfl
theorem kS_X4_pairs : Cond.selects RX4 yX4_pairs yX4_pairs ∈ TB := tb_of 657 (by decide +kernel) rfl
theorem kC_X5_pairs : Cond.code yX5_pairs cX5_pairs 9 (some .int) ∈ TB := tb_of 1197 (by decide +kernel) rfl
theorem kM_RL_151_X5_pairs : Cond.methodLink RL 151 yX5_pairs ∈ TB := tb_of 1194 (by decide +kernel) rfl
theorem kI_X5_pairs : Cond.instanceMethod yX5_pairs ∈ TB := tb_of 1195 (by decide +kernel) rfl
theorem kS_X5_pairs : Cond.selects RX5 yX5_pairs yX5_pairs ∈ TB := tb_of 1196 (by decide +kernel) rfl
theorem kC_X4_turrets : Cond.code yX4_turrets cX4_turrets 2 (some .int) ∈ TB := tb_of 673 (by decide +kernel) rfl
theorem kM_RL_152_X4_turrets : Cond.methodLink RL 152 yX4_turrets ∈ TB := tb_of 670 (by decide +kernel) rfl
theorem kI_X4_turrets : Cond.instanceMethod yX4_turrets ∈ TB := tb_of 671 (by decide +kernel) rfl
theorem kS_X4_turrets : Cond.selects RX4 yX4_turrets yX4_turrets ∈ TB := tb_of 672 (by decide +kernel) rfl
theorem kC_X5_turrets : Cond.code yX5_turrets cX5_turrets 4 (some .int) ∈ TB := tb_of 1202 (by decide +kernel) rfl
theorem kM_RL_155_X5_turrets : Cond.methodLink RL 155 yX5_turrets ∈ TB := tb_of 1199 (by decide +kernel) rfl
theorem kI_X5_turrets : Cond.instanceMethod yX5_turrets ∈ TB := tb_of 1200 (by decide +kernel) rfl
theorem kS_X5_turrets : Cond.selects RX5 yX5_turrets yX5_turrets ∈ TB := tb_of 1201 (by decide +kernel) rfl
theorem kC_X4_row : Cond.code yX4_row cX4_row 2 (some .int) ∈ TB := tb_of 681 (by decide +kernel) rfl
theorem kM_RL_156_X4_row : Cond.methodLink RL 156 yX4_row ∈ TB := tb_of 678 (by decide +kernel) rfl
theorem kI_X4_row : Cond.instanceMethod yX4_row ∈ TB := tb_of 679 (by decide +kernel) rfl
theorem kS_X4_row : Cond.selects RX4 yX4_row yX4_row ∈ TB := tb_of 680 (by decide +kernel) rfl
theorem kC_X5_row : Cond.code yX5_row cX5_row 2 (some .int) ∈ TB := tb_of 1206 (by decide +kernel) rfl
theorem kM_RL_159_X5_row : Cond.methodLink RL 159 yX5_row ∈ TB := tb_of 1203 (by decide +kernel) rfl
theorem kI_X5_row : Cond.instanceMethod yX5_row ∈ TB := tb_of 1204 (by decide +kernel) rfl
theorem kS_X5_row : Cond.selects RX5 yX5_row yX5_row ∈ TB := tb_of 1205 (by decide +kernel) rfl
theorem kC_X4_judge : Cond.code yX4_judge cX4_judge 3 (some .int) ∈ TB := tb_of 685 (by decide +kernel) rfl
theorem kM_RL_160_X4_judge : Cond.methodLink RL 160 yX4_judge ∈ TB := tb_of 682 (by decide +kernel) rfl
theorem kI_X4_judge : Cond.instanceMethod yX4_judge ∈ TB := tb_of 683 (by decide +kernel) rfl
theorem kS_X4_judge : Cond.selects RX4 yX4_judge yX4_judge ∈ TB := tb_of 684 (by decide +kernel) rfl
theorem kC_X5_judge : Cond.code yX5_judge cX5_judge 3 (some .int) ∈ TB := tb_of 1210 (by decide +kernel) rfl
theorem kM_RL_163_X5_judge : Cond.methodLink RL 163 yX5_judge ∈ TB := tb_of 1207 (by decide +kernel) rfl
theorem kI_X5_judge : Cond.instanceMethod yX5_judge ∈ TB := tb_of 1208 (by decide +kernel) rfl
theorem kS_X5_judge : Cond.selects RX5 yX5_judge yX5_judge ∈ TB := tb_of 1209 (by decide +kernel) rfl
theorem kC_X4_clear : Cond.code yX4_clear cX4_clear 2 (some .int) ∈ TB := tb_of 689 (by decide +kernel) rfl
theorem kM_RL_164_X4_clear : Cond.methodLink RL 164 yX4_clear ∈ TB := tb_of 686 (by decide +kernel) rfl
theorem kI_X4_clear : Cond.instanceMethod yX4_clear ∈ TB := tb_of 687 (by decide +kernel) rfl
theorem kS_X4_clear : Cond.selects RX4 yX4_clear yX4_clear ∈ TB := tb_of 688 (by decide +kernel) rfl
theorem kC_X5_clear : Cond.code yX5_clear cX5_clear 2 (some .int) ∈ TB := tb_of 1214 (by decide +kernel) rfl
theorem kM_RL_167_X5_clear : Cond.methodLink RL 167 yX5_clear ∈ TB := tb_of 1211 (by decide +kernel) rfl
theorem kI_X5_clear : Cond.instanceMethod yX5_clear ∈ TB := tb_of 1212 (by decide +kernel) rfl
theorem kS_X5_clear : Cond.selects RX5 yX5_clear yX5_clear ∈ TB := tb_of 1213 (by decide +kernel) rfl
theorem kC_X4_lots : Cond.code yX4_lots cX4_lots 9 (some .int) ∈ TB := tb_of 693 (by decide +kernel) rfl
theorem kM_RL_168_X4_lots : Cond.methodLink RL 168 yX4_lots ∈ TB := tb_of 690 (by decide +kernel) rfl
theorem kI_X4_lots : Cond.instanceMethod yX4_lots ∈ TB := tb_of 691 (by decide +kernel) rfl
theorem kS_X4_lots : Cond.selects RX4 yX4_lots yX4_lots ∈ TB := tb_of 692 (by decide +kernel) rfl
theorem kC_X5_lots : Cond.code yX5_lots cX5_lots 8 (some .int) ∈ TB := tb_of 1218 (by decide +kernel) rfl
theorem kM_RL_171_X5_lots : Cond.methodLink RL 171 yX5_lots ∈ TB := tb_of 1215 (by decide +kernel) rfl
theorem kI_X5_lots : Cond.instanceMethod yX5_lots ∈ TB := tb_of 1216 (by decide +kernel) rfl
theorem kS_X5_lots : Cond.selects RX5 yX5_lots yX5_lots ∈ TB := tb_of 1217 (by decide +kernel) rfl
theorem kC_X4_image : Cond.code yX4_image cX4_image 1 (some .int) ∈ TB := tb_of 699 (by decide +kernel) rfl
theorem kM_RL_172_X4_image : Cond.methodLink RL 172 yX4_image ∈ TB := tb_of 696 (by decide +kernel) rfl
theorem kI_X4_image : Cond.instanceMethod yX4_image ∈ TB := tb_of 697 (by decide +kernel) rfl
theorem kS_X4_image : Cond.selects RX4 yX4_image yX4_image ∈ TB := tb_of 698 (by decide +kernel) rfl
theorem kC_X5_image : Cond.code yX5_image cX5_image 1 (some .int) ∈ TB := tb_of 971 (by decide +kernel) rfl
theorem kM_RL_175_X5_image : Cond.methodLink RL 175 yX5_image ∈ TB := tb_of 968 (by decide +kernel) rfl
theorem kI_X5_image : Cond.instanceMethod yX5_image ∈ TB := tb_of 969 (by decide +kernel) rfl
theorem kS_X5_image : Cond.selects RX5 yX5_image yX5_image ∈ TB := tb_of 970 (by decide +kernel) rfl
theorem kC_X4_restore : Cond.code yX4_restore cX4_restore 1 (some .int) ∈ TB := tb_of 703 (by decide +kernel) rfl
theorem kM_RL_176_X4_restore : Cond.methodLink RL 176 yX4_restore ∈ TB := tb_of 700 (by decide +kernel) rfl
theorem kI_X4_restore : Cond.instanceMethod yX4_restore ∈ TB := tb_of 701 (by decide +kernel) rfl
theorem kS_X4_restore : Cond.selects RX4 yX4_restore yX4_restore ∈ TB := tb_of 702 (by decide +kernel) rfl
theorem kC_X5_restore : Cond.code yX5_restore cX5_restore 1 (some .int) ∈ TB := tb_of 975 (by decide +kernel) rfl
theorem kM_RL_179_X5_restore : Cond.methodLink RL 179 yX5_restore ∈ TB := tb_of 972 (by decide +kernel) rfl
theorem kI_X5_restore : Cond.instanceMethod yX5_restore ∈ TB := tb_of 973 (by decide +kernel) rfl
theorem kS_X5_restore : Cond.selects RX5 yX5_restore yX5_restore ∈ TB := tb_of 974 (by decide +kernel) rfl
theorem kC_X4_count : Cond.code yX4_count cX4_count 2 (some .int) ∈ TB := tb_of 707 (by decide +kernel) rfl
theorem kM_RL_180_X4_count : Cond.methodLink RL 180 yX4_count ∈ TB := tb_of 704 (by decide +kernel) rfl
theorem kI_X4_count : Cond.instanceMethod yX4_count ∈ TB := tb_of 705 (by decide +kernel) rfl
theorem kS_X4_count : Cond.selects RX4 yX4_count yX4_count ∈ TB := tb_of 706 (by decide +kernel) rfl
theorem kC_X5_count : Cond.code yX5_count cX5_count 2 (some .int) ∈ TB := tb_of 1229 (by decide +kernel) rfl
theorem kM_RL_183_X5_count : Cond.methodLink RL 183 yX5_count ∈ TB := tb_of 1226 (by decide +kernel) rfl
theorem kI_X5_count : Cond.instanceMethod yX5_count ∈ TB := tb_of 1227 (by decide +kernel) rfl
theorem kS_X5_count : Cond.selects RX5 yX5_count yX5_count ∈ TB := tb_of 1228 (by decide +kernel) rfl
theorem dL_law_0 : decode cL_law 0 = .ok (.new 7, 3) := by decide +kernel
theorem dL_law_3 : decode cL_law 3 = .ok (.dup, 1) := by decide +kernel
theorem dL_law_4 : decode cL_law 4 = .ok (.invokespecial 9, 3) := by decide +kernel
theorem dL_law_7 : decode cL_law 7 = .ok (.astore_n 1, 1) := by decide +kernel
theorem dL_law_8 : decode cL_law 8 = .ok (.new 10, 3) := by decide +kernel
theorem dL_law_11 : decode cL_law 11 = .ok (.dup, 1) := by decide +kernel
theorem dL_law_12 : decode cL_law 12 = .ok (.invokespecial 12, 3) := by decide +kernel
theorem dL_law_15 : decode cL_law 15 = .ok (.astore_n 2, 1) := by decide +kernel
theorem dL_law_16 : decode cL_law 16 = .ok (.iconst 0, 1) := by decide +kernel
theorem dL_law_17 : decode cL_law 17 = .ok (.istore_n 3, 1) := by decide +kernel
theorem dL_law_18 : decode cL_law 18 = .ok (.iload_n 3, 1) := by decide +kernel
theorem dL_law_19 : decode cL_law 19 = .ok (.aload_n 0, 1) := by decide +kernel
theorem dL_law_20 : decode cL_law 20 = .ok (.arraylength, 1) := by decide +kernel
theorem dL_law_21 : decode cL_law 21 = .ok (.iconst 5, 1) := by decide +kernel
theorem dL_law_22 : decode cL_law 22 = .ok (.isub, 1) := by decide +kernel
theorem dL_law_23 : decode cL_law 23 = .ok (.if_icmp .gt 1220, 3) := by decide +kernel
theorem dL_law_26 : decode cL_law 26 = .ok (.aload_n 0, 1) := by decide +kernel
theorem dL_law_27 : decode cL_law 27 = .ok (.iload_n 3, 1) := by decide +kernel
theorem dL_law_28 : decode cL_law 28 = .ok (.iaload, 1) := by decide +kernel
theorem dL_law_29 : decode cL_law 29 = .ok (.bipush 63, 2) := by decide +kernel
theorem dL_law_31 : decode cL_law 31 = .ok (.iand, 1) := by decide +kernel
theorem dL_law_32 : decode cL_law 32 = .ok (.tableswitch 1205 0 40 #[180, 203, 216, 249, 272, 315, 338, 361, 374, 397, 410, 433, 456, 489, 512, 535, 558, 581, 624, 677, 700, 723, 746, 779, 792, 825, 879, 912, 935, 959, 972, 985, 1018, 1041, 1064, 1087, 1100, 1113, 1156, 1169, 1182], 180) := by decide +kernel
theorem dL_law_212 : decode cL_law 212 = .ok (.aload_n 1, 1) := by decide +kernel
theorem dL_law_213 : decode cL_law 213 = .ok (.aload_n 0, 1) := by decide +kernel
theorem dL_law_214 : decode cL_law 214 = .ok (.iload_n 3, 1) := by decide +kernel
theorem dL_law_215 : decode cL_law 215 = .ok (.iconst 1, 1) := by decide +kernel
theorem dL_law_216 : decode cL_law 216 = .ok (.iadd, 1) := by decide +kernel
theorem dL_law_217 : decode cL_law 217 = .ok (.iaload, 1) := by decide +kernel
theorem dL_law_218 : decode cL_law 218 = .ok (.invokevirtual 13, 3) := by decide +kernel
theorem dL_law_221 : decode cL_law 221 = .ok (.aload_n 2, 1) := by decide +kernel
theorem dL_law_222 : decode cL_law 222 = .ok (.aload_n 0, 1) := by decide +kernel
theorem dL_law_223 : decode cL_law 223 = .ok (.iload_n 3, 1) := by decide +kernel
theorem dL_law_224 : decode cL_law 224 = .ok (.iconst 1, 1) := by decide +kernel
theorem dL_law_225 : decode cL_law 225 = .ok (.iadd, 1) := by decide +kernel
theorem dL_law_226 : decode cL_law 226 = .ok (.iaload, 1) := by decide +kernel
theorem dL_law_227 : decode cL_law 227 = .ok (.invokevirtual 17, 3) := by decide +kernel
theorem dL_law_230 : decode cL_law 230 = .ok (.if_icmp .eq 1007, 3) := by decide +kernel
theorem dL_law_233 : decode cL_law 233 = .ok (.iconst 0, 1) := by decide +kernel
theorem dL_law_234 : decode cL_law 234 = .ok (.ireturn, 1) := by decide +kernel
theorem dL_law_235 : decode cL_law 235 = .ok (.aload_n 1, 1) := by decide +kernel
theorem dL_law_236 : decode cL_law 236 = .ok (.invokevirtual 18, 3) := by decide +kernel
theorem dL_law_239 : decode cL_law 239 = .ok (.aload_n 2, 1) := by decide +kernel
theorem dL_law_240 : decode cL_law 240 = .ok (.invokevirtual 22, 3) := by decide +kernel
theorem dL_law_243 : decode cL_law 243 = .ok (.if_icmp .eq 994, 3) := by decide +kernel
theorem dL_law_246 : decode cL_law 246 = .ok (.iconst 0, 1) := by decide +kernel
theorem dL_law_247 : decode cL_law 247 = .ok (.ireturn, 1) := by decide +kernel
theorem dL_law_248 : decode cL_law 248 = .ok (.aload_n 1, 1) := by decide +kernel
theorem dL_law_249 : decode cL_law 249 = .ok (.aload_n 0, 1) := by decide +kernel
theorem dL_law_250 : decode cL_law 250 = .ok (.iload_n 3, 1) := by decide +kernel
theorem dL_law_251 : decode cL_law 251 = .ok (.iconst 1, 1) := by decide +kernel
theorem dL_law_252 : decode cL_law 252 = .ok (.iadd, 1) := by decide +kernel
theorem dL_law_253 : decode cL_law 253 = .ok (.iaload, 1) := by decide +kernel
theorem dL_law_254 : decode cL_law 254 = .ok (.aload_n 0, 1) := by decide +kernel
theorem dL_law_255 : decode cL_law 255 = .ok (.iload_n 3, 1) := by decide +kernel
theorem dL_law_256 : decode cL_law 256 = .ok (.iconst 2, 1) := by decide +kernel
theorem dL_law_257 : decode cL_law 257 = .ok (.iadd, 1) := by decide +kernel
theorem dL_law_258 : decode cL_law 258 = .ok (.iaload, 1) := by decide +kernel
theorem dL_law_259 : decode cL_law 259 = .ok (.invokevirtual 23, 3) := by decide +kernel
theorem dL_law_262 : decode cL_law 262 = .ok (.aload_n 2, 1) := by decide +kernel
theorem dL_law_263 : decode cL_law 263 = .ok (.aload_n 0, 1) := by decide +kernel
theorem dL_law_264 : decode cL_law 264 = .ok (.iload_n 3, 1) := by decide +kernel
theorem dL_law_265 : decode cL_law 265 = .ok (.iconst 1, 1) := by decide +kernel
theorem dL_law_266 : decode cL_law 266 = .ok (.iadd, 1) := by decide +kernel
theorem dL_law_267 : decode cL_law 267 = .ok (.iaload, 1) := by decide +kernel
theorem dL_law_268 : decode cL_law 268 = .ok (.aload_n 0, 1) := by decide +kernel
theorem dL_law_269 : decode cL_law 269 = .ok (.iload_n 3, 1) := by decide +kernel
theorem dL_law_270 : decode cL_law 270 = .ok (.iconst 2, 1) := by decide +kernel
theorem dL_law_271 : decode cL_law 271 = .ok (.iadd, 1) := by decide +kernel
theorem dL_law_272 : decode cL_law 272 = .ok (.iaload, 1) := by decide +kernel
theorem dL_law_273 : decode cL_law 273 = .ok (.invokevirtual 27, 3) := by decide +kernel
theorem dL_law_276 : decode cL_law 276 = .ok (.if_icmp .eq 961, 3) := by decide +kernel
theorem dL_law_279 : decode cL_law 279 = .ok (.iconst 0, 1) := by decide +kernel
theorem dL_law_280 : decode cL_law 280 = .ok (.ireturn, 1) := by decide +kernel
theorem dL_law_281 : decode cL_law 281 = .ok (.aload_n 1, 1) := by decide +kernel
theorem dL_law_282 : decode cL_law 282 = .ok (.aload_n 0, 1) := by decide +kernel
theorem dL_law_283 : decode cL_law 283 = .ok (.iload_n 3, 1) := by decide +kernel
theorem dL_law_284 : decode cL_law 284 = .ok (.iconst 1, 1) := by decide +kernel
theorem dL_law_285 : decode cL_law 285 = .ok (.iadd, 1) := by decide +kernel
theorem dL_law_286 : decode cL_law 286 = .ok (.iaload, 1) := by decide +kernel
theorem dL_law_287 : decode cL_law 287 = .ok (.invokevirtual 28, 3) := by decide +kernel
theorem dL_law_290 : decode cL_law 290 = .ok (.aload_n 2, 1) := by decide +kernel
theorem dL_law_291 : decode cL_law 291 = .ok (.aload_n 0, 1) := by decide +kernel
theorem dL_law_292 : decode cL_law 292 = .ok (.iload_n 3, 1) := by decide +kernel
theorem dL_law_293 : decode cL_law 293 = .ok (.iconst 1, 1) := by decide +kernel
theorem dL_law_294 : decode cL_law 294 = .ok (.iadd, 1) := by decide +kernel
theorem dL_law_295 : decode cL_law 295 = .ok (.iaload, 1) := by decide +kernel
theorem dL_law_296 : decode cL_law 296 = .ok (.invokevirtual 31, 3) := by decide +kernel
theorem dL_law_299 : decode cL_law 299 = .ok (.if_icmp .eq 938, 3) := by decide +kernel
theorem dL_law_302 : decode cL_law 302 = .ok (.iconst 0, 1) := by decide +kernel
theorem dL_law_303 : decode cL_law 303 = .ok (.ireturn, 1) := by decide +kernel
theorem dL_law_304 : decode cL_law 304 = .ok (.aload_n 1, 1) := by decide +kernel
theorem dL_law_305 : decode cL_law 305 = .ok (.aload_n 0, 1) := by decide +kernel
theorem dL_law_306 : decode cL_law 306 = .ok (.iload_n 3, 1) := by decide +kernel
theorem dL_law_307 : decode cL_law 307 = .ok (.iconst 1, 1) := by decide +kernel
theorem dL_law_308 : decode cL_law 308 = .ok (.iadd, 1) := by decide +kernel
theorem dL_law_309 : decode cL_law 309 = .ok (.iaload, 1) := by decide +kernel
theorem dL_law_310 : decode cL_law 310 = .ok (.aload_n 0, 1) := by decide +kernel
theorem dL_law_311 : decode cL_law 311 = .ok (.iload_n 3, 1) := by decide +kernel
theorem dL_law_312 : decode cL_law 312 = .ok (.iconst 2, 1) := by decide +kernel
theorem dL_law_313 : decode cL_law 313 = .ok (.iadd, 1) := by decide +kernel
theorem dL_law_314 : decode cL_law 314 = .ok (.iaload, 1) := by decide +kernel
theorem dL_law_315 : decode cL_law 315 = .ok (.aload_n 0, 1) := by decide +kernel
theorem dL_law_316 : decode cL_law 316 = .ok (.iload_n 3, 1) := by decide +kernel
theorem dL_law_317 : decode cL_law 317 = .ok (.iconst 3, 1) := by decide +kernel
theorem dL_law_318 : decode cL_law 318 = .ok (.iadd, 1) := by decide +kernel
theorem dL_law_319 : decode cL_law 319 = .ok (.iaload, 1) := by decide +kernel
theorem dL_law_320 : decode cL_law 320 = .ok (.invokevirtual 32, 3) := by decide +kernel
theorem dL_law_323 : decode cL_law 323 = .ok (.aload_n 2, 1) := by decide +kernel
theorem dL_law_324 : decode cL_law 324 = .ok (.aload_n 0, 1) := by decide +kernel
theorem dL_law_325 : decode cL_law 325 = .ok (.iload_n 3, 1) := by decide +kernel
theorem dL_law_326 : decode cL_law 326 = .ok (.iconst 1, 1) := by decide +kernel
theorem dL_law_327 : decode cL_law 327 = .ok (.iadd, 1) := by decide +kernel
theorem dL_law_328 : decode cL_law 328 = .ok (.iaload, 1) := by decide +kernel
theorem dL_law_329 : decode cL_law 329 = .ok (.aload_n 0, 1) := by decide +kernel
theorem dL_law_330 : decode cL_law 330 = .ok (.iload_n 3, 1) := by decide +kernel
theorem dL_law_331 : decode cL_law 331 = .ok (.iconst 2, 1) := by decide +kernel
theorem dL_law_332 : decode cL_law 332 = .ok (.iadd, 1) := by decide +kernel
theorem dL_law_333 : decode cL_law 333 = .ok (.iaload, 1) := by decide +kernel
theorem dL_law_334 : decode cL_law 334 = .ok (.aload_n 0, 1) := by decide +kernel
theorem dL_law_335 : decode cL_law 335 = .ok (.iload_n 3, 1) := by decide +kernel
theorem dL_law_336 : decode cL_law 336 = .ok (.iconst 3, 1) := by decide +kernel
theorem dL_law_337 : decode cL_law 337 = .ok (.iadd, 1) := by decide +kernel
theorem dL_law_338 : decode cL_law 338 = .ok (.iaload, 1) := by decide +kernel
theorem dL_law_339 : decode cL_law 339 = .ok (.invokevirtual 36, 3) := by decide +kernel
theorem dL_law_342 : decode cL_law 342 = .ok (.if_icmp .eq 895, 3) := by decide +kernel
theorem dL_law_345 : decode cL_law 345 = .ok (.iconst 0, 1) := by decide +kernel
theorem dL_law_346 : decode cL_law 346 = .ok (.ireturn, 1) := by decide +kernel
theorem dL_law_347 : decode cL_law 347 = .ok (.aload_n 1, 1) := by decide +kernel
theorem dL_law_348 : decode cL_law 348 = .ok (.aload_n 0, 1) := by decide +kernel
theorem dL_law_349 : decode cL_law 349 = .ok (.iload_n 3, 1) := by decide +kernel
theorem dL_law_350 : decode cL_law 350 = .ok (.iconst 1, 1) := by decide +kernel
theorem dL_law_351 : decode cL_law 351 = .ok (.iadd, 1) := by decide +kernel
theorem dL_law_352 : decode cL_law 352 = .ok (.iaload, 1) := by decide +kernel
theorem dL_law_353 : decode cL_law 353 = .ok (.invokevirtual 37, 3) := by decide +kernel
theorem dL_law_356 : decode cL_law 356 = .ok (.aload_n 2, 1) := by decide +kernel
theorem dL_law_357 : decode cL_law 357 = .ok (.aload_n 0, 1) := by decide +kernel
theorem dL_law_358 : decode cL_law 358 = .ok (.iload_n 3, 1) := by decide +kernel
theorem dL_law_359 : decode cL_law 359 = .ok (.iconst 1, 1) := by decide +kernel
theorem dL_law_360 : decode cL_law 360 = .ok (.iadd, 1) := by decide +kernel
theorem dL_law_361 : decode cL_law 361 = .ok (.iaload, 1) := by decide +kernel
theorem dL_law_362 : decode cL_law 362 = .ok (.invokevirtual 40, 3) := by decide +kernel
theorem dL_law_365 : decode cL_law 365 = .ok (.if_icmp .eq 872, 3) := by decide +kernel
theorem dL_law_368 : decode cL_law 368 = .ok (.iconst 0, 1) := by decide +kernel
theorem dL_law_369 : decode cL_law 369 = .ok (.ireturn, 1) := by decide +kernel
theorem dL_law_370 : decode cL_law 370 = .ok (.aload_n 1, 1) := by decide +kernel
theorem dL_law_371 : decode cL_law 371 = .ok (.aload_n 0, 1) := by decide +kernel
theorem dL_law_372 : decode cL_law 372 = .ok (.iload_n 3, 1) := by decide +kernel
theorem dL_law_373 : decode cL_law 373 = .ok (.iconst 1, 1) := by decide +kernel
theorem dL_law_374 : decode cL_law 374 = .ok (.iadd, 1) := by decide +kernel
theorem dL_law_375 : decode cL_law 375 = .ok (.iaload, 1) := by decide +kernel
theorem dL_law_376 : decode cL_law 376 = .ok (.invokevirtual 41, 3) := by decide +kernel
theorem dL_law_379 : decode cL_law 379 = .ok (.aload_n 2, 1) := by decide +kernel
theorem dL_law_380 : decode cL_law 380 = .ok (.aload_n 0, 1) := by decide +kernel
theorem dL_law_381 : decode cL_law 381 = .ok (.iload_n 3, 1) := by decide +kernel
theorem dL_law_382 : decode cL_law 382 = .ok (.iconst 1, 1) := by decide +kernel
theorem dL_law_383 : decode cL_law 383 = .ok (.iadd, 1) := by decide +kernel
theorem dL_law_384 : decode cL_law 384 = .ok (.iaload, 1) := by decide +kernel
theorem dL_law_385 : decode cL_law 385 = .ok (.invokevirtual 44, 3) := by decide +kernel
theorem dL_law_388 : decode cL_law 388 = .ok (.if_icmp .eq 849, 3) := by decide +kernel
theorem dL_law_391 : decode cL_law 391 = .ok (.iconst 0, 1) := by decide +kernel
theorem dL_law_392 : decode cL_law 392 = .ok (.ireturn, 1) := by decide +kernel
theorem dL_law_393 : decode cL_law 393 = .ok (.aload_n 1, 1) := by decide +kernel
theorem dL_law_394 : decode cL_law 394 = .ok (.invokevirtual 45, 3) := by decide +kernel
theorem dL_law_397 : decode cL_law 397 = .ok (.aload_n 2, 1) := by decide +kernel
theorem dL_law_398 : decode cL_law 398 = .ok (.invokevirtual 48, 3) := by decide +kernel
theorem dL_law_401 : decode cL_law 401 = .ok (.if_icmp .eq 836, 3) := by decide +kernel
theorem dL_law_404 : decode cL_law 404 = .ok (.iconst 0, 1) := by decide +kernel
theorem dL_law_405 : decode cL_law 405 = .ok (.ireturn, 1) := by decide +kernel
theorem dL_law_406 : decode cL_law 406 = .ok (.aload_n 1, 1) := by decide +kernel
theorem dL_law_407 : decode cL_law 407 = .ok (.aload_n 0, 1) := by decide +kernel
theorem dL_law_408 : decode cL_law 408 = .ok (.iload_n 3, 1) := by decide +kernel
theorem dL_law_409 : decode cL_law 409 = .ok (.iconst 1, 1) := by decide +kernel
theorem dL_law_410 : decode cL_law 410 = .ok (.iadd, 1) := by decide +kernel
theorem dL_law_411 : decode cL_law 411 = .ok (.iaload, 1) := by decide +kernel
theorem dL_law_412 : decode cL_law 412 = .ok (.invokevirtual 49, 3) := by decide +kernel
theorem dL_law_415 : decode cL_law 415 = .ok (.aload_n 2, 1) := by decide +kernel
theorem dL_law_416 : decode cL_law 416 = .ok (.aload_n 0, 1) := by decide +kernel
theorem dL_law_417 : decode cL_law 417 = .ok (.iload_n 3, 1) := by decide +kernel
theorem dL_law_418 : decode cL_law 418 = .ok (.iconst 1, 1) := by decide +kernel
theorem dL_law_419 : decode cL_law 419 = .ok (.iadd, 1) := by decide +kernel
theorem dL_law_420 : decode cL_law 420 = .ok (.iaload, 1) := by decide +kernel
theorem dL_law_421 : decode cL_law 421 = .ok (.invokevirtual 52, 3) := by decide +kernel
theorem dL_law_424 : decode cL_law 424 = .ok (.if_icmp .eq 813, 3) := by decide +kernel
theorem dL_law_427 : decode cL_law 427 = .ok (.iconst 0, 1) := by decide +kernel
theorem dL_law_428 : decode cL_law 428 = .ok (.ireturn, 1) := by decide +kernel
theorem dL_law_429 : decode cL_law 429 = .ok (.aload_n 1, 1) := by decide +kernel
theorem dL_law_430 : decode cL_law 430 = .ok (.invokevirtual 53, 3) := by decide +kernel
theorem dL_law_433 : decode cL_law 433 = .ok (.aload_n 2, 1) := by decide +kernel
theorem dL_law_434 : decode cL_law 434 = .ok (.invokevirtual 56, 3) := by decide +kernel
theorem dL_law_437 : decode cL_law 437 = .ok (.if_icmp .eq 800, 3) := by decide +kernel
theorem dL_law_440 : decode cL_law 440 = .ok (.iconst 0, 1) := by decide +kernel
theorem dL_law_441 : decode cL_law 441 = .ok (.ireturn, 1) := by decide +kernel
theorem dL_law_442 : decode cL_law 442 = .ok (.aload_n 1, 1) := by decide +kernel
theorem dL_law_443 : decode cL_law 443 = .ok (.aload_n 0, 1) := by decide +kernel
theorem dL_law_444 : decode cL_law 444 = .ok (.iload_n 3, 1) := by decide +kernel
theorem dL_law_445 : decode cL_law 445 = .ok (.iconst 1, 1) := by decide +kernel
theorem dL_law_446 : decode cL_law 446 = .ok (.iadd, 1) := by decide +kernel
theorem dL_law_447 : decode cL_law 447 = .ok (.iaload, 1) := by decide +kernel
theorem dL_law_448 : decode cL_law 448 = .ok (.invokevirtual 57, 3) := by decide +kernel
theorem dL_law_451 : decode cL_law 451 = .ok (.aload_n 2, 1) := by decide +kernel
theorem dL_law_452 : decode cL_law 452 = .ok (.aload_n 0, 1) := by decide +kernel
theorem dL_law_453 : decode cL_law 453 = .ok (.iload_n 3, 1) := by decide +kernel
theorem dL_law_454 : decode cL_law 454 = .ok (.iconst 1, 1) := by decide +kernel
theorem dL_law_455 : decode cL_law 455 = .ok (.iadd, 1) := by decide +kernel
theorem dL_law_456 : decode cL_law 456 = .ok (.iaload, 1) := by decide +kernel
theorem dL_law_457 : decode cL_law 457 = .ok (.invokevirtual 60, 3) := by decide +kernel
theorem dL_law_460 : decode cL_law 460 = .ok (.if_icmp .eq 777, 3) := by decide +kernel
theorem dL_law_463 : decode cL_law 463 = .ok (.iconst 0, 1) := by decide +kernel
theorem dL_law_464 : decode cL_law 464 = .ok (.ireturn, 1) := by decide +kernel
theorem dL_law_465 : decode cL_law 465 = .ok (.aload_n 1, 1) := by decide +kernel
theorem dL_law_466 : decode cL_law 466 = .ok (.aload_n 0, 1) := by decide +kernel
theorem dL_law_467 : decode cL_law 467 = .ok (.iload_n 3, 1) := by decide +kernel
theorem dL_law_468 : decode cL_law 468 = .ok (.iconst 1, 1) := by decide +kernel
theorem dL_law_469 : decode cL_law 469 = .ok (.iadd, 1) := by decide +kernel
theorem dL_law_470 : decode cL_law 470 = .ok (.iaload, 1) := by decide +kernel
theorem dL_law_471 : decode cL_law 471 = .ok (.invokevirtual 61, 3) := by decide +kernel
theorem dL_law_474 : decode cL_law 474 = .ok (.aload_n 2, 1) := by decide +kernel
theorem dL_law_475 : decode cL_law 475 = .ok (.aload_n 0, 1) := by decide +kernel
theorem dL_law_476 : decode cL_law 476 = .ok (.iload_n 3, 1) := by decide +kernel
theorem dL_law_477 : decode cL_law 477 = .ok (.iconst 1, 1) := by decide +kernel
theorem dL_law_478 : decode cL_law 478 = .ok (.iadd, 1) := by decide +kernel
theorem dL_law_479 : decode cL_law 479 = .ok (.iaload, 1) := by decide +kernel
theorem dL_law_480 : decode cL_law 480 = .ok (.invokevirtual 64, 3) := by decide +kernel
theorem dL_law_483 : decode cL_law 483 = .ok (.if_icmp .eq 754, 3) := by decide +kernel
theorem dL_law_486 : decode cL_law 486 = .ok (.iconst 0, 1) := by decide +kernel
theorem dL_law_487 : decode cL_law 487 = .ok (.ireturn, 1) := by decide +kernel
theorem dL_law_488 : decode cL_law 488 = .ok (.aload_n 1, 1) := by decide +kernel
theorem dL_law_489 : decode cL_law 489 = .ok (.aload_n 0, 1) := by decide +kernel
theorem dL_law_490 : decode cL_law 490 = .ok (.iload_n 3, 1) := by decide +kernel
theorem dL_law_491 : decode cL_law 491 = .ok (.iconst 1, 1) := by decide +kernel
theorem dL_law_492 : decode cL_law 492 = .ok (.iadd, 1) := by decide +kernel
theorem dL_law_493 : decode cL_law 493 = .ok (.iaload, 1) := by decide +kernel
theorem dL_law_494 : decode cL_law 494 = .ok (.aload_n 0, 1) := by decide +kernel
theorem dL_law_495 : decode cL_law 495 = .ok (.iload_n 3, 1) := by decide +kernel
theorem dL_law_496 : decode cL_law 496 = .ok (.iconst 2, 1) := by decide +kernel
theorem dL_law_497 : decode cL_law 497 = .ok (.iadd, 1) := by decide +kernel
theorem dL_law_498 : decode cL_law 498 = .ok (.iaload, 1) := by decide +kernel
theorem dL_law_499 : decode cL_law 499 = .ok (.invokevirtual 65, 3) := by decide +kernel
theorem dL_law_502 : decode cL_law 502 = .ok (.aload_n 2, 1) := by decide +kernel
theorem dL_law_503 : decode cL_law 503 = .ok (.aload_n 0, 1) := by decide +kernel
theorem dL_law_504 : decode cL_law 504 = .ok (.iload_n 3, 1) := by decide +kernel
theorem dL_law_505 : decode cL_law 505 = .ok (.iconst 1, 1) := by decide +kernel
theorem dL_law_506 : decode cL_law 506 = .ok (.iadd, 1) := by decide +kernel
theorem dL_law_507 : decode cL_law 507 = .ok (.iaload, 1) := by decide +kernel
theorem dL_law_508 : decode cL_law 508 = .ok (.aload_n 0, 1) := by decide +kernel
theorem dL_law_509 : decode cL_law 509 = .ok (.iload_n 3, 1) := by decide +kernel
theorem dL_law_510 : decode cL_law 510 = .ok (.iconst 2, 1) := by decide +kernel
theorem dL_law_511 : decode cL_law 511 = .ok (.iadd, 1) := by decide +kernel
theorem dL_law_512 : decode cL_law 512 = .ok (.iaload, 1) := by decide +kernel
theorem dL_law_513 : decode cL_law 513 = .ok (.invokevirtual 68, 3) := by decide +kernel
theorem dL_law_516 : decode cL_law 516 = .ok (.if_icmp .eq 721, 3) := by decide +kernel
theorem dL_law_519 : decode cL_law 519 = .ok (.iconst 0, 1) := by decide +kernel
theorem dL_law_520 : decode cL_law 520 = .ok (.ireturn, 1) := by decide +kernel
theorem dL_law_521 : decode cL_law 521 = .ok (.aload_n 1, 1) := by decide +kernel
theorem dL_law_522 : decode cL_law 522 = .ok (.aload_n 0, 1) := by decide +kernel
theorem dL_law_523 : decode cL_law 523 = .ok (.iload_n 3, 1) := by decide +kernel
theorem dL_law_524 : decode cL_law 524 = .ok (.iconst 1, 1) := by decide +kernel
theorem dL_law_525 : decode cL_law 525 = .ok (.iadd, 1) := by decide +kernel
theorem dL_law_526 : decode cL_law 526 = .ok (.iaload, 1) := by decide +kernel
theorem dL_law_527 : decode cL_law 527 = .ok (.invokevirtual 69, 3) := by decide +kernel
theorem dL_law_530 : decode cL_law 530 = .ok (.aload_n 2, 1) := by decide +kernel
theorem dL_law_531 : decode cL_law 531 = .ok (.aload_n 0, 1) := by decide +kernel
theorem dL_law_532 : decode cL_law 532 = .ok (.iload_n 3, 1) := by decide +kernel
theorem dL_law_533 : decode cL_law 533 = .ok (.iconst 1, 1) := by decide +kernel
theorem dL_law_534 : decode cL_law 534 = .ok (.iadd, 1) := by decide +kernel
theorem dL_law_535 : decode cL_law 535 = .ok (.iaload, 1) := by decide +kernel
theorem dL_law_536 : decode cL_law 536 = .ok (.invokevirtual 72, 3) := by decide +kernel
theorem dL_law_539 : decode cL_law 539 = .ok (.if_icmp .eq 698, 3) := by decide +kernel
theorem dL_law_542 : decode cL_law 542 = .ok (.iconst 0, 1) := by decide +kernel
theorem dL_law_543 : decode cL_law 543 = .ok (.ireturn, 1) := by decide +kernel
theorem dL_law_544 : decode cL_law 544 = .ok (.aload_n 1, 1) := by decide +kernel
theorem dL_law_545 : decode cL_law 545 = .ok (.aload_n 0, 1) := by decide +kernel
theorem dL_law_546 : decode cL_law 546 = .ok (.iload_n 3, 1) := by decide +kernel
theorem dL_law_547 : decode cL_law 547 = .ok (.iconst 1, 1) := by decide +kernel
theorem dL_law_548 : decode cL_law 548 = .ok (.iadd, 1) := by decide +kernel
theorem dL_law_549 : decode cL_law 549 = .ok (.iaload, 1) := by decide +kernel
theorem dL_law_550 : decode cL_law 550 = .ok (.invokevirtual 73, 3) := by decide +kernel
theorem dL_law_553 : decode cL_law 553 = .ok (.aload_n 2, 1) := by decide +kernel
theorem dL_law_554 : decode cL_law 554 = .ok (.aload_n 0, 1) := by decide +kernel
theorem dL_law_555 : decode cL_law 555 = .ok (.iload_n 3, 1) := by decide +kernel
theorem dL_law_556 : decode cL_law 556 = .ok (.iconst 1, 1) := by decide +kernel
theorem dL_law_557 : decode cL_law 557 = .ok (.iadd, 1) := by decide +kernel
theorem dL_law_558 : decode cL_law 558 = .ok (.iaload, 1) := by decide +kernel
theorem dL_law_559 : decode cL_law 559 = .ok (.invokevirtual 76, 3) := by decide +kernel
theorem dL_law_562 : decode cL_law 562 = .ok (.if_icmp .eq 675, 3) := by decide +kernel
theorem dL_law_565 : decode cL_law 565 = .ok (.iconst 0, 1) := by decide +kernel
theorem dL_law_566 : decode cL_law 566 = .ok (.ireturn, 1) := by decide +kernel
theorem dL_law_567 : decode cL_law 567 = .ok (.aload_n 1, 1) := by decide +kernel
theorem dL_law_568 : decode cL_law 568 = .ok (.aload_n 0, 1) := by decide +kernel
theorem dL_law_569 : decode cL_law 569 = .ok (.iload_n 3, 1) := by decide +kernel
theorem dL_law_570 : decode cL_law 570 = .ok (.iconst 1, 1) := by decide +kernel
theorem dL_law_571 : decode cL_law 571 = .ok (.iadd, 1) := by decide +kernel
theorem dL_law_572 : decode cL_law 572 = .ok (.iaload, 1) := by decide +kernel
theorem dL_law_573 : decode cL_law 573 = .ok (.invokevirtual 77, 3) := by decide +kernel
theorem dL_law_576 : decode cL_law 576 = .ok (.aload_n 2, 1) := by decide +kernel
theorem dL_law_577 : decode cL_law 577 = .ok (.aload_n 0, 1) := by decide +kernel
theorem dL_law_578 : decode cL_law 578 = .ok (.iload_n 3, 1) := by decide +kernel
theorem dL_law_579 : decode cL_law 579 = .ok (.iconst 1, 1) := by decide +kernel
theorem dL_law_580 : decode cL_law 580 = .ok (.iadd, 1) := by decide +kernel
theorem dL_law_581 : decode cL_law 581 = .ok (.iaload, 1) := by decide +kernel
theorem dL_law_582 : decode cL_law 582 = .ok (.invokevirtual 80, 3) := by decide +kernel
theorem dL_law_585 : decode cL_law 585 = .ok (.if_icmp .eq 652, 3) := by decide +kernel
theorem dL_law_588 : decode cL_law 588 = .ok (.iconst 0, 1) := by decide +kernel
theorem dL_law_589 : decode cL_law 589 = .ok (.ireturn, 1) := by decide +kernel
theorem dL_law_590 : decode cL_law 590 = .ok (.aload_n 1, 1) := by decide +kernel
theorem dL_law_591 : decode cL_law 591 = .ok (.aload_n 0, 1) := by decide +kernel
theorem dL_law_592 : decode cL_law 592 = .ok (.iload_n 3, 1) := by decide +kernel
theorem dL_law_593 : decode cL_law 593 = .ok (.iconst 1, 1) := by decide +kernel
theorem dL_law_594 : decode cL_law 594 = .ok (.iadd, 1) := by decide +kernel
theorem dL_law_595 : decode cL_law 595 = .ok (.iaload, 1) := by decide +kernel
theorem dL_law_596 : decode cL_law 596 = .ok (.invokevirtual 81, 3) := by decide +kernel
theorem dL_law_599 : decode cL_law 599 = .ok (.aload_n 2, 1) := by decide +kernel
theorem dL_law_600 : decode cL_law 600 = .ok (.aload_n 0, 1) := by decide +kernel
theorem dL_law_601 : decode cL_law 601 = .ok (.iload_n 3, 1) := by decide +kernel
theorem dL_law_602 : decode cL_law 602 = .ok (.iconst 1, 1) := by decide +kernel
theorem dL_law_603 : decode cL_law 603 = .ok (.iadd, 1) := by decide +kernel
theorem dL_law_604 : decode cL_law 604 = .ok (.iaload, 1) := by decide +kernel
theorem dL_law_605 : decode cL_law 605 = .ok (.invokevirtual 84, 3) := by decide +kernel
theorem dL_law_608 : decode cL_law 608 = .ok (.if_icmp .eq 629, 3) := by decide +kernel
theorem dL_law_611 : decode cL_law 611 = .ok (.iconst 0, 1) := by decide +kernel
theorem dL_law_612 : decode cL_law 612 = .ok (.ireturn, 1) := by decide +kernel
theorem dL_law_613 : decode cL_law 613 = .ok (.aload_n 1, 1) := by decide +kernel
theorem dL_law_614 : decode cL_law 614 = .ok (.aload_n 0, 1) := by decide +kernel
theorem dL_law_615 : decode cL_law 615 = .ok (.iload_n 3, 1) := by decide +kernel
theorem dL_law_616 : decode cL_law 616 = .ok (.iconst 1, 1) := by decide +kernel
theorem dL_law_617 : decode cL_law 617 = .ok (.iadd, 1) := by decide +kernel
theorem dL_law_618 : decode cL_law 618 = .ok (.iaload, 1) := by decide +kernel
theorem dL_law_619 : decode cL_law 619 = .ok (.aload_n 0, 1) := by decide +kernel
theorem dL_law_620 : decode cL_law 620 = .ok (.iload_n 3, 1) := by decide +kernel
theorem dL_law_621 : decode cL_law 621 = .ok (.iconst 2, 1) := by decide +kernel
theorem dL_law_622 : decode cL_law 622 = .ok (.iadd, 1) := by decide +kernel
theorem dL_law_623 : decode cL_law 623 = .ok (.iaload, 1) := by decide +kernel
theorem dL_law_624 : decode cL_law 624 = .ok (.aload_n 0, 1) := by decide +kernel
theorem dL_law_625 : decode cL_law 625 = .ok (.iload_n 3, 1) := by decide +kernel
theorem dL_law_626 : decode cL_law 626 = .ok (.iconst 3, 1) := by decide +kernel
theorem dL_law_627 : decode cL_law 627 = .ok (.iadd, 1) := by decide +kernel
theorem dL_law_628 : decode cL_law 628 = .ok (.iaload, 1) := by decide +kernel
theorem dL_law_629 : decode cL_law 629 = .ok (.invokevirtual 85, 3) := by decide +kernel
theorem dL_law_632 : decode cL_law 632 = .ok (.aload_n 2, 1) := by decide +kernel
theorem dL_law_633 : decode cL_law 633 = .ok (.aload_n 0, 1) := by decide +kernel
theorem dL_law_634 : decode cL_law 634 = .ok (.iload_n 3, 1) := by decide +kernel
theorem dL_law_635 : decode cL_law 635 = .ok (.iconst 1, 1) := by decide +kernel
theorem dL_law_636 : decode cL_law 636 = .ok (.iadd, 1) := by decide +kernel
theorem dL_law_637 : decode cL_law 637 = .ok (.iaload, 1) := by decide +kernel
theorem dL_law_638 : decode cL_law 638 = .ok (.aload_n 0, 1) := by decide +kernel
theorem dL_law_639 : decode cL_law 639 = .ok (.iload_n 3, 1) := by decide +kernel
theorem dL_law_640 : decode cL_law 640 = .ok (.iconst 2, 1) := by decide +kernel
theorem dL_law_641 : decode cL_law 641 = .ok (.iadd, 1) := by decide +kernel
theorem dL_law_642 : decode cL_law 642 = .ok (.iaload, 1) := by decide +kernel
theorem dL_law_643 : decode cL_law 643 = .ok (.aload_n 0, 1) := by decide +kernel
theorem dL_law_644 : decode cL_law 644 = .ok (.iload_n 3, 1) := by decide +kernel
theorem dL_law_645 : decode cL_law 645 = .ok (.iconst 3, 1) := by decide +kernel
theorem dL_law_646 : decode cL_law 646 = .ok (.iadd, 1) := by decide +kernel
theorem dL_law_647 : decode cL_law 647 = .ok (.iaload, 1) := by decide +kernel
theorem dL_law_648 : decode cL_law 648 = .ok (.invokevirtual 88, 3) := by decide +kernel
theorem dL_law_651 : decode cL_law 651 = .ok (.if_icmp .eq 586, 3) := by decide +kernel
theorem dL_law_654 : decode cL_law 654 = .ok (.iconst 0, 1) := by decide +kernel
theorem dL_law_655 : decode cL_law 655 = .ok (.ireturn, 1) := by decide +kernel
theorem dL_law_656 : decode cL_law 656 = .ok (.aload_n 1, 1) := by decide +kernel
theorem dL_law_657 : decode cL_law 657 = .ok (.aload_n 0, 1) := by decide +kernel
theorem dL_law_658 : decode cL_law 658 = .ok (.iload_n 3, 1) := by decide +kernel
theorem dL_law_659 : decode cL_law 659 = .ok (.iconst 1, 1) := by decide +kernel
theorem dL_law_660 : decode cL_law 660 = .ok (.iadd, 1) := by decide +kernel
theorem dL_law_661 : decode cL_law 661 = .ok (.iaload, 1) := by decide +kernel
theorem dL_law_662 : decode cL_law 662 = .ok (.aload_n 0, 1) := by decide +kernel
theorem dL_law_663 : decode cL_law 663 = .ok (.iload_n 3, 1) := by decide +kernel
theorem dL_law_664 : decode cL_law 664 = .ok (.iconst 2, 1) := by decide +kernel
theorem dL_law_665 : decode cL_law 665 = .ok (.iadd, 1) := by decide +kernel
theorem dL_law_666 : decode cL_law 666 = .ok (.iaload, 1) := by decide +kernel
theorem dL_law_667 : decode cL_law 667 = .ok (.aload_n 0, 1) := by decide +kernel
theorem dL_law_668 : decode cL_law 668 = .ok (.iload_n 3, 1) := by decide +kernel
theorem dL_law_669 : decode cL_law 669 = .ok (.iconst 3, 1) := by decide +kernel
theorem dL_law_670 : decode cL_law 670 = .ok (.iadd, 1) := by decide +kernel
theorem dL_law_671 : decode cL_law 671 = .ok (.iaload, 1) := by decide +kernel
theorem dL_law_672 : decode cL_law 672 = .ok (.aload_n 0, 1) := by decide +kernel
theorem dL_law_673 : decode cL_law 673 = .ok (.iload_n 3, 1) := by decide +kernel
theorem dL_law_674 : decode cL_law 674 = .ok (.iconst 4, 1) := by decide +kernel
theorem dL_law_675 : decode cL_law 675 = .ok (.iadd, 1) := by decide +kernel
theorem dL_law_676 : decode cL_law 676 = .ok (.iaload, 1) := by decide +kernel
theorem dL_law_677 : decode cL_law 677 = .ok (.invokevirtual 89, 3) := by decide +kernel
theorem dL_law_680 : decode cL_law 680 = .ok (.aload_n 2, 1) := by decide +kernel
theorem dL_law_681 : decode cL_law 681 = .ok (.aload_n 0, 1) := by decide +kernel
theorem dL_law_682 : decode cL_law 682 = .ok (.iload_n 3, 1) := by decide +kernel
theorem dL_law_683 : decode cL_law 683 = .ok (.iconst 1, 1) := by decide +kernel
theorem dL_law_684 : decode cL_law 684 = .ok (.iadd, 1) := by decide +kernel
theorem dL_law_685 : decode cL_law 685 = .ok (.iaload, 1) := by decide +kernel
theorem dL_law_686 : decode cL_law 686 = .ok (.aload_n 0, 1) := by decide +kernel
theorem dL_law_687 : decode cL_law 687 = .ok (.iload_n 3, 1) := by decide +kernel
theorem dL_law_688 : decode cL_law 688 = .ok (.iconst 2, 1) := by decide +kernel
theorem dL_law_689 : decode cL_law 689 = .ok (.iadd, 1) := by decide +kernel
theorem dL_law_690 : decode cL_law 690 = .ok (.iaload, 1) := by decide +kernel
theorem dL_law_691 : decode cL_law 691 = .ok (.aload_n 0, 1) := by decide +kernel
theorem dL_law_692 : decode cL_law 692 = .ok (.iload_n 3, 1) := by decide +kernel
theorem dL_law_693 : decode cL_law 693 = .ok (.iconst 3, 1) := by decide +kernel
theorem dL_law_694 : decode cL_law 694 = .ok (.iadd, 1) := by decide +kernel
theorem dL_law_695 : decode cL_law 695 = .ok (.iaload, 1) := by decide +kernel
theorem dL_law_696 : decode cL_law 696 = .ok (.aload_n 0, 1) := by decide +kernel
theorem dL_law_697 : decode cL_law 697 = .ok (.iload_n 3, 1) := by decide +kernel
theorem dL_law_698 : decode cL_law 698 = .ok (.iconst 4, 1) := by decide +kernel
theorem dL_law_699 : decode cL_law 699 = .ok (.iadd, 1) := by decide +kernel
theorem dL_law_700 : decode cL_law 700 = .ok (.iaload, 1) := by decide +kernel
theorem dL_law_701 : decode cL_law 701 = .ok (.invokevirtual 93, 3) := by decide +kernel
theorem dL_law_704 : decode cL_law 704 = .ok (.if_icmp .eq 533, 3) := by decide +kernel
theorem dL_law_707 : decode cL_law 707 = .ok (.iconst 0, 1) := by decide +kernel
theorem dL_law_708 : decode cL_law 708 = .ok (.ireturn, 1) := by decide +kernel
theorem dL_law_709 : decode cL_law 709 = .ok (.aload_n 1, 1) := by decide +kernel
theorem dL_law_710 : decode cL_law 710 = .ok (.aload_n 0, 1) := by decide +kernel
theorem dL_law_711 : decode cL_law 711 = .ok (.iload_n 3, 1) := by decide +kernel
theorem dL_law_712 : decode cL_law 712 = .ok (.iconst 1, 1) := by decide +kernel
theorem dL_law_713 : decode cL_law 713 = .ok (.iadd, 1) := by decide +kernel
theorem dL_law_714 : decode cL_law 714 = .ok (.iaload, 1) := by decide +kernel
theorem dL_law_715 : decode cL_law 715 = .ok (.invokevirtual 94, 3) := by decide +kernel
theorem dL_law_718 : decode cL_law 718 = .ok (.aload_n 2, 1) := by decide +kernel
theorem dL_law_719 : decode cL_law 719 = .ok (.aload_n 0, 1) := by decide +kernel
theorem dL_law_720 : decode cL_law 720 = .ok (.iload_n 3, 1) := by decide +kernel
theorem dL_law_721 : decode cL_law 721 = .ok (.iconst 1, 1) := by decide +kernel
theorem dL_law_722 : decode cL_law 722 = .ok (.iadd, 1) := by decide +kernel
theorem dL_law_723 : decode cL_law 723 = .ok (.iaload, 1) := by decide +kernel
theorem dL_law_724 : decode cL_law 724 = .ok (.invokevirtual 97, 3) := by decide +kernel
theorem dL_law_727 : decode cL_law 727 = .ok (.if_icmp .eq 510, 3) := by decide +kernel
theorem dL_law_730 : decode cL_law 730 = .ok (.iconst 0, 1) := by decide +kernel
theorem dL_law_731 : decode cL_law 731 = .ok (.ireturn, 1) := by decide +kernel
theorem dL_law_732 : decode cL_law 732 = .ok (.aload_n 1, 1) := by decide +kernel
theorem dL_law_733 : decode cL_law 733 = .ok (.aload_n 0, 1) := by decide +kernel
theorem dL_law_734 : decode cL_law 734 = .ok (.iload_n 3, 1) := by decide +kernel
theorem dL_law_735 : decode cL_law 735 = .ok (.iconst 1, 1) := by decide +kernel
theorem dL_law_736 : decode cL_law 736 = .ok (.iadd, 1) := by decide +kernel
theorem dL_law_737 : decode cL_law 737 = .ok (.iaload, 1) := by decide +kernel
theorem dL_law_738 : decode cL_law 738 = .ok (.invokevirtual 98, 3) := by decide +kernel
theorem dL_law_741 : decode cL_law 741 = .ok (.aload_n 2, 1) := by decide +kernel
theorem dL_law_742 : decode cL_law 742 = .ok (.aload_n 0, 1) := by decide +kernel
theorem dL_law_743 : decode cL_law 743 = .ok (.iload_n 3, 1) := by decide +kernel
theorem dL_law_744 : decode cL_law 744 = .ok (.iconst 1, 1) := by decide +kernel
theorem dL_law_745 : decode cL_law 745 = .ok (.iadd, 1) := by decide +kernel
theorem dL_law_746 : decode cL_law 746 = .ok (.iaload, 1) := by decide +kernel
theorem dL_law_747 : decode cL_law 747 = .ok (.invokevirtual 101, 3) := by decide +kernel
theorem dL_law_750 : decode cL_law 750 = .ok (.if_icmp .eq 487, 3) := by decide +kernel
theorem dL_law_753 : decode cL_law 753 = .ok (.iconst 0, 1) := by decide +kernel
theorem dL_law_754 : decode cL_law 754 = .ok (.ireturn, 1) := by decide +kernel
theorem dL_law_755 : decode cL_law 755 = .ok (.aload_n 1, 1) := by decide +kernel
theorem dL_law_756 : decode cL_law 756 = .ok (.aload_n 0, 1) := by decide +kernel
theorem dL_law_757 : decode cL_law 757 = .ok (.iload_n 3, 1) := by decide +kernel
theorem dL_law_758 : decode cL_law 758 = .ok (.iconst 1, 1) := by decide +kernel
theorem dL_law_759 : decode cL_law 759 = .ok (.iadd, 1) := by decide +kernel
theorem dL_law_760 : decode cL_law 760 = .ok (.iaload, 1) := by decide +kernel
theorem dL_law_761 : decode cL_law 761 = .ok (.invokevirtual 102, 3) := by decide +kernel
theorem dL_law_764 : decode cL_law 764 = .ok (.aload_n 2, 1) := by decide +kernel
theorem dL_law_765 : decode cL_law 765 = .ok (.aload_n 0, 1) := by decide +kernel
theorem dL_law_766 : decode cL_law 766 = .ok (.iload_n 3, 1) := by decide +kernel
theorem dL_law_767 : decode cL_law 767 = .ok (.iconst 1, 1) := by decide +kernel
theorem dL_law_768 : decode cL_law 768 = .ok (.iadd, 1) := by decide +kernel
theorem dL_law_769 : decode cL_law 769 = .ok (.iaload, 1) := by decide +kernel
theorem dL_law_770 : decode cL_law 770 = .ok (.invokevirtual 105, 3) := by decide +kernel
theorem dL_law_773 : decode cL_law 773 = .ok (.if_icmp .eq 464, 3) := by decide +kernel
theorem dL_law_776 : decode cL_law 776 = .ok (.iconst 0, 1) := by decide +kernel
theorem dL_law_777 : decode cL_law 777 = .ok (.ireturn, 1) := by decide +kernel
theorem dL_law_778 : decode cL_law 778 = .ok (.aload_n 1, 1) := by decide +kernel
theorem dL_law_779 : decode cL_law 779 = .ok (.aload_n 0, 1) := by decide +kernel
theorem dL_law_780 : decode cL_law 780 = .ok (.iload_n 3, 1) := by decide +kernel
theorem dL_law_781 : decode cL_law 781 = .ok (.iconst 1, 1) := by decide +kernel
theorem dL_law_782 : decode cL_law 782 = .ok (.iadd, 1) := by decide +kernel
theorem dL_law_783 : decode cL_law 783 = .ok (.iaload, 1) := by decide +kernel
theorem dL_law_784 : decode cL_law 784 = .ok (.aload_n 0, 1) := by decide +kernel
theorem dL_law_785 : decode cL_law 785 = .ok (.iload_n 3, 1) := by decide +kernel
theorem dL_law_786 : decode cL_law 786 = .ok (.iconst 2, 1) := by decide +kernel
theorem dL_law_787 : decode cL_law 787 = .ok (.iadd, 1) := by decide +kernel
theorem dL_law_788 : decode cL_law 788 = .ok (.iaload, 1) := by decide +kernel
theorem dL_law_789 : decode cL_law 789 = .ok (.invokevirtual 106, 3) := by decide +kernel
theorem dL_law_792 : decode cL_law 792 = .ok (.aload_n 2, 1) := by decide +kernel
theorem dL_law_793 : decode cL_law 793 = .ok (.aload_n 0, 1) := by decide +kernel
theorem dL_law_794 : decode cL_law 794 = .ok (.iload_n 3, 1) := by decide +kernel
theorem dL_law_795 : decode cL_law 795 = .ok (.iconst 1, 1) := by decide +kernel
theorem dL_law_796 : decode cL_law 796 = .ok (.iadd, 1) := by decide +kernel
theorem dL_law_797 : decode cL_law 797 = .ok (.iaload, 1) := by decide +kernel
theorem dL_law_798 : decode cL_law 798 = .ok (.aload_n 0, 1) := by decide +kernel
theorem dL_law_799 : decode cL_law 799 = .ok (.iload_n 3, 1) := by decide +kernel
theorem dL_law_800 : decode cL_law 800 = .ok (.iconst 2, 1) := by decide +kernel
theorem dL_law_801 : decode cL_law 801 = .ok (.iadd, 1) := by decide +kernel
theorem dL_law_802 : decode cL_law 802 = .ok (.iaload, 1) := by decide +kernel
theorem dL_law_803 : decode cL_law 803 = .ok (.invokevirtual 109, 3) := by decide +kernel
theorem dL_law_806 : decode cL_law 806 = .ok (.if_icmp .eq 431, 3) := by decide +kernel
theorem dL_law_809 : decode cL_law 809 = .ok (.iconst 0, 1) := by decide +kernel
theorem dL_law_810 : decode cL_law 810 = .ok (.ireturn, 1) := by decide +kernel
theorem dL_law_811 : decode cL_law 811 = .ok (.aload_n 1, 1) := by decide +kernel
theorem dL_law_812 : decode cL_law 812 = .ok (.invokevirtual 110, 3) := by decide +kernel
theorem dL_law_815 : decode cL_law 815 = .ok (.aload_n 2, 1) := by decide +kernel
theorem dL_law_816 : decode cL_law 816 = .ok (.invokevirtual 113, 3) := by decide +kernel
theorem dL_law_819 : decode cL_law 819 = .ok (.if_icmp .eq 418, 3) := by decide +kernel
theorem dL_law_822 : decode cL_law 822 = .ok (.iconst 0, 1) := by decide +kernel
theorem dL_law_823 : decode cL_law 823 = .ok (.ireturn, 1) := by decide +kernel
theorem dL_law_824 : decode cL_law 824 = .ok (.aload_n 1, 1) := by decide +kernel
theorem dL_law_825 : decode cL_law 825 = .ok (.aload_n 0, 1) := by decide +kernel
theorem dL_law_826 : decode cL_law 826 = .ok (.iload_n 3, 1) := by decide +kernel
theorem dL_law_827 : decode cL_law 827 = .ok (.iconst 1, 1) := by decide +kernel
theorem dL_law_828 : decode cL_law 828 = .ok (.iadd, 1) := by decide +kernel
theorem dL_law_829 : decode cL_law 829 = .ok (.iaload, 1) := by decide +kernel
theorem dL_law_830 : decode cL_law 830 = .ok (.aload_n 0, 1) := by decide +kernel
theorem dL_law_831 : decode cL_law 831 = .ok (.iload_n 3, 1) := by decide +kernel
theorem dL_law_832 : decode cL_law 832 = .ok (.iconst 2, 1) := by decide +kernel
theorem dL_law_833 : decode cL_law 833 = .ok (.iadd, 1) := by decide +kernel
theorem dL_law_834 : decode cL_law 834 = .ok (.iaload, 1) := by decide +kernel
theorem dL_law_835 : decode cL_law 835 = .ok (.invokevirtual 114, 3) := by decide +kernel
theorem dL_law_838 : decode cL_law 838 = .ok (.aload_n 2, 1) := by decide +kernel
theorem dL_law_839 : decode cL_law 839 = .ok (.aload_n 0, 1) := by decide +kernel
theorem dL_law_840 : decode cL_law 840 = .ok (.iload_n 3, 1) := by decide +kernel
theorem dL_law_841 : decode cL_law 841 = .ok (.iconst 1, 1) := by decide +kernel
theorem dL_law_842 : decode cL_law 842 = .ok (.iadd, 1) := by decide +kernel
theorem dL_law_843 : decode cL_law 843 = .ok (.iaload, 1) := by decide +kernel
theorem dL_law_844 : decode cL_law 844 = .ok (.aload_n 0, 1) := by decide +kernel
theorem dL_law_845 : decode cL_law 845 = .ok (.iload_n 3, 1) := by decide +kernel
theorem dL_law_846 : decode cL_law 846 = .ok (.iconst 2, 1) := by decide +kernel
theorem dL_law_847 : decode cL_law 847 = .ok (.iadd, 1) := by decide +kernel
theorem dL_law_848 : decode cL_law 848 = .ok (.iaload, 1) := by decide +kernel
theorem dL_law_849 : decode cL_law 849 = .ok (.invokevirtual 117, 3) := by decide +kernel
theorem dL_law_852 : decode cL_law 852 = .ok (.if_icmp .eq 385, 3) := by decide +kernel
theorem dL_law_855 : decode cL_law 855 = .ok (.iconst 0, 1) := by decide +kernel
theorem dL_law_856 : decode cL_law 856 = .ok (.ireturn, 1) := by decide +kernel
theorem dL_law_857 : decode cL_law 857 = .ok (.aload_n 1, 1) := by decide +kernel
theorem dL_law_858 : decode cL_law 858 = .ok (.aload_n 0, 1) := by decide +kernel
theorem dL_law_859 : decode cL_law 859 = .ok (.iload_n 3, 1) := by decide +kernel
theorem dL_law_860 : decode cL_law 860 = .ok (.iconst 1, 1) := by decide +kernel
theorem dL_law_861 : decode cL_law 861 = .ok (.iadd, 1) := by decide +kernel
theorem dL_law_862 : decode cL_law 862 = .ok (.iaload, 1) := by decide +kernel
theorem dL_law_863 : decode cL_law 863 = .ok (.aload_n 0, 1) := by decide +kernel
theorem dL_law_864 : decode cL_law 864 = .ok (.iload_n 3, 1) := by decide +kernel
theorem dL_law_865 : decode cL_law 865 = .ok (.iconst 2, 1) := by decide +kernel
theorem dL_law_866 : decode cL_law 866 = .ok (.iadd, 1) := by decide +kernel
theorem dL_law_867 : decode cL_law 867 = .ok (.iaload, 1) := by decide +kernel
theorem dL_law_868 : decode cL_law 868 = .ok (.aload_n 0, 1) := by decide +kernel
theorem dL_law_869 : decode cL_law 869 = .ok (.iload_n 3, 1) := by decide +kernel
theorem dL_law_870 : decode cL_law 870 = .ok (.iconst 3, 1) := by decide +kernel
theorem dL_law_871 : decode cL_law 871 = .ok (.iadd, 1) := by decide +kernel
theorem dL_law_872 : decode cL_law 872 = .ok (.iaload, 1) := by decide +kernel
theorem dL_law_873 : decode cL_law 873 = .ok (.aload_n 0, 1) := by decide +kernel
theorem dL_law_874 : decode cL_law 874 = .ok (.iload_n 3, 1) := by decide +kernel
theorem dL_law_875 : decode cL_law 875 = .ok (.iconst 4, 1) := by decide +kernel
theorem dL_law_876 : decode cL_law 876 = .ok (.iadd, 1) := by decide +kernel
theorem dL_law_877 : decode cL_law 877 = .ok (.iaload, 1) := by decide +kernel
theorem dL_law_878 : decode cL_law 878 = .ok (.invokevirtual 118, 3) := by decide +kernel
theorem dL_law_881 : decode cL_law 881 = .ok (.aload_n 2, 1) := by decide +kernel
theorem dL_law_882 : decode cL_law 882 = .ok (.aload_n 0, 1) := by decide +kernel
theorem dL_law_883 : decode cL_law 883 = .ok (.iload_n 3, 1) := by decide +kernel
theorem dL_law_884 : decode cL_law 884 = .ok (.iconst 1, 1) := by decide +kernel
theorem dL_law_885 : decode cL_law 885 = .ok (.iadd, 1) := by decide +kernel
theorem dL_law_886 : decode cL_law 886 = .ok (.iaload, 1) := by decide +kernel
theorem dL_law_887 : decode cL_law 887 = .ok (.aload_n 0, 1) := by decide +kernel
theorem dL_law_888 : decode cL_law 888 = .ok (.iload_n 3, 1) := by decide +kernel
theorem dL_law_889 : decode cL_law 889 = .ok (.iconst 2, 1) := by decide +kernel
theorem dL_law_890 : decode cL_law 890 = .ok (.iadd, 1) := by decide +kernel
theorem dL_law_891 : decode cL_law 891 = .ok (.iaload, 1) := by decide +kernel
theorem dL_law_892 : decode cL_law 892 = .ok (.aload_n 0, 1) := by decide +kernel
theorem dL_law_893 : decode cL_law 893 = .ok (.iload_n 3, 1) := by decide +kernel
theorem dL_law_894 : decode cL_law 894 = .ok (.iconst 3, 1) := by decide +kernel
theorem dL_law_895 : decode cL_law 895 = .ok (.iadd, 1) := by decide +kernel
theorem dL_law_896 : decode cL_law 896 = .ok (.iaload, 1) := by decide +kernel
theorem dL_law_897 : decode cL_law 897 = .ok (.aload_n 0, 1) := by decide +kernel
theorem dL_law_898 : decode cL_law 898 = .ok (.iload_n 3, 1) := by decide +kernel
theorem dL_law_899 : decode cL_law 899 = .ok (.iconst 4, 1) := by decide +kernel
theorem dL_law_900 : decode cL_law 900 = .ok (.iadd, 1) := by decide +kernel
theorem dL_law_901 : decode cL_law 901 = .ok (.iaload, 1) := by decide +kernel
theorem dL_law_902 : decode cL_law 902 = .ok (.invokevirtual 122, 3) := by decide +kernel
theorem dL_law_905 : decode cL_law 905 = .ok (.lcmp, 1) := by decide +kernel
theorem dL_law_906 : decode cL_law 906 = .ok (.ifCond .eq 331, 3) := by decide +kernel
theorem dL_law_909 : decode cL_law 909 = .ok (.iconst 0, 1) := by decide +kernel
theorem dL_law_910 : decode cL_law 910 = .ok (.ireturn, 1) := by decide +kernel
theorem dL_law_911 : decode cL_law 911 = .ok (.aload_n 1, 1) := by decide +kernel
theorem dL_law_912 : decode cL_law 912 = .ok (.aload_n 0, 1) := by decide +kernel
theorem dL_law_913 : decode cL_law 913 = .ok (.iload_n 3, 1) := by decide +kernel
theorem dL_law_914 : decode cL_law 914 = .ok (.iconst 1, 1) := by decide +kernel
theorem dL_law_915 : decode cL_law 915 = .ok (.iadd, 1) := by decide +kernel
theorem dL_law_916 : decode cL_law 916 = .ok (.iaload, 1) := by decide +kernel
theorem dL_law_917 : decode cL_law 917 = .ok (.aload_n 0, 1) := by decide +kernel
theorem dL_law_918 : decode cL_law 918 = .ok (.iload_n 3, 1) := by decide +kernel
theorem dL_law_919 : decode cL_law 919 = .ok (.iconst 2, 1) := by decide +kernel
theorem dL_law_920 : decode cL_law 920 = .ok (.iadd, 1) := by decide +kernel
theorem dL_law_921 : decode cL_law 921 = .ok (.iaload, 1) := by decide +kernel
theorem dL_law_922 : decode cL_law 922 = .ok (.invokevirtual 123, 3) := by decide +kernel
theorem dL_law_925 : decode cL_law 925 = .ok (.aload_n 2, 1) := by decide +kernel
theorem dL_law_926 : decode cL_law 926 = .ok (.aload_n 0, 1) := by decide +kernel
theorem dL_law_927 : decode cL_law 927 = .ok (.iload_n 3, 1) := by decide +kernel
theorem dL_law_928 : decode cL_law 928 = .ok (.iconst 1, 1) := by decide +kernel
theorem dL_law_929 : decode cL_law 929 = .ok (.iadd, 1) := by decide +kernel
theorem dL_law_930 : decode cL_law 930 = .ok (.iaload, 1) := by decide +kernel
theorem dL_law_931 : decode cL_law 931 = .ok (.aload_n 0, 1) := by decide +kernel
theorem dL_law_932 : decode cL_law 932 = .ok (.iload_n 3, 1) := by decide +kernel
theorem dL_law_933 : decode cL_law 933 = .ok (.iconst 2, 1) := by decide +kernel
theorem dL_law_934 : decode cL_law 934 = .ok (.iadd, 1) := by decide +kernel
theorem dL_law_935 : decode cL_law 935 = .ok (.iaload, 1) := by decide +kernel
theorem dL_law_936 : decode cL_law 936 = .ok (.invokevirtual 126, 3) := by decide +kernel
theorem dL_law_939 : decode cL_law 939 = .ok (.if_icmp .eq 298, 3) := by decide +kernel
theorem dL_law_942 : decode cL_law 942 = .ok (.iconst 0, 1) := by decide +kernel
theorem dL_law_943 : decode cL_law 943 = .ok (.ireturn, 1) := by decide +kernel
theorem dL_law_944 : decode cL_law 944 = .ok (.aload_n 1, 1) := by decide +kernel
theorem dL_law_945 : decode cL_law 945 = .ok (.aload_n 0, 1) := by decide +kernel
theorem dL_law_946 : decode cL_law 946 = .ok (.iload_n 3, 1) := by decide +kernel
theorem dL_law_947 : decode cL_law 947 = .ok (.iconst 1, 1) := by decide +kernel
theorem dL_law_948 : decode cL_law 948 = .ok (.iadd, 1) := by decide +kernel
theorem dL_law_949 : decode cL_law 949 = .ok (.iaload, 1) := by decide +kernel
theorem dL_law_950 : decode cL_law 950 = .ok (.invokevirtual 127, 3) := by decide +kernel
theorem dL_law_953 : decode cL_law 953 = .ok (.aload_n 2, 1) := by decide +kernel
theorem dL_law_954 : decode cL_law 954 = .ok (.aload_n 0, 1) := by decide +kernel
theorem dL_law_955 : decode cL_law 955 = .ok (.iload_n 3, 1) := by decide +kernel
theorem dL_law_956 : decode cL_law 956 = .ok (.iconst 1, 1) := by decide +kernel
theorem dL_law_957 : decode cL_law 957 = .ok (.iadd, 1) := by decide +kernel
theorem dL_law_958 : decode cL_law 958 = .ok (.iaload, 1) := by decide +kernel
theorem dL_law_959 : decode cL_law 959 = .ok (.invokevirtual 130, 3) := by decide +kernel
theorem dL_law_962 : decode cL_law 962 = .ok (.if_icmp .eq 275, 3) := by decide +kernel
theorem dL_law_965 : decode cL_law 965 = .ok (.iconst 0, 1) := by decide +kernel
theorem dL_law_966 : decode cL_law 966 = .ok (.ireturn, 1) := by decide +kernel
theorem dL_law_967 : decode cL_law 967 = .ok (.aload_n 1, 1) := by decide +kernel
theorem dL_law_968 : decode cL_law 968 = .ok (.aload_n 0, 1) := by decide +kernel
theorem dL_law_969 : decode cL_law 969 = .ok (.iload_n 3, 1) := by decide +kernel
theorem dL_law_970 : decode cL_law 970 = .ok (.iconst 1, 1) := by decide +kernel
theorem dL_law_971 : decode cL_law 971 = .ok (.iadd, 1) := by decide +kernel
theorem dL_law_972 : decode cL_law 972 = .ok (.iaload, 1) := by decide +kernel
theorem dL_law_973 : decode cL_law 973 = .ok (.invokevirtual 131, 3) := by decide +kernel
theorem dL_law_976 : decode cL_law 976 = .ok (.aload_n 2, 1) := by decide +kernel
theorem dL_law_977 : decode cL_law 977 = .ok (.aload_n 0, 1) := by decide +kernel
theorem dL_law_978 : decode cL_law 978 = .ok (.iload_n 3, 1) := by decide +kernel
theorem dL_law_979 : decode cL_law 979 = .ok (.iconst 1, 1) := by decide +kernel
theorem dL_law_980 : decode cL_law 980 = .ok (.iadd, 1) := by decide +kernel
theorem dL_law_981 : decode cL_law 981 = .ok (.iaload, 1) := by decide +kernel
theorem dL_law_982 : decode cL_law 982 = .ok (.invokevirtual 135, 3) := by decide +kernel
theorem dL_law_985 : decode cL_law 985 = .ok (.lcmp, 1) := by decide +kernel
theorem dL_law_986 : decode cL_law 986 = .ok (.ifCond .eq 251, 3) := by decide +kernel
theorem dL_law_989 : decode cL_law 989 = .ok (.iconst 0, 1) := by decide +kernel
theorem dL_law_990 : decode cL_law 990 = .ok (.ireturn, 1) := by decide +kernel
theorem dL_law_991 : decode cL_law 991 = .ok (.aload_n 1, 1) := by decide +kernel
theorem dL_law_992 : decode cL_law 992 = .ok (.invokevirtual 136, 3) := by decide +kernel
theorem dL_law_995 : decode cL_law 995 = .ok (.aload_n 2, 1) := by decide +kernel
theorem dL_law_996 : decode cL_law 996 = .ok (.invokevirtual 139, 3) := by decide +kernel
theorem dL_law_999 : decode cL_law 999 = .ok (.if_icmp .eq 238, 3) := by decide +kernel
theorem dL_law_1002 : decode cL_law 1002 = .ok (.iconst 0, 1) := by decide +kernel
theorem dL_law_1003 : decode cL_law 1003 = .ok (.ireturn, 1) := by decide +kernel
theorem dL_law_1004 : decode cL_law 1004 = .ok (.aload_n 1, 1) := by decide +kernel
theorem dL_law_1005 : decode cL_law 1005 = .ok (.invokevirtual 140, 3) := by decide +kernel
theorem dL_law_1008 : decode cL_law 1008 = .ok (.aload_n 2, 1) := by decide +kernel
theorem dL_law_1009 : decode cL_law 1009 = .ok (.invokevirtual 143, 3) := by decide +kernel
theorem dL_law_1012 : decode cL_law 1012 = .ok (.if_icmp .eq 225, 3) := by decide +kernel
theorem dL_law_1015 : decode cL_law 1015 = .ok (.iconst 0, 1) := by decide +kernel
theorem dL_law_1016 : decode cL_law 1016 = .ok (.ireturn, 1) := by decide +kernel
theorem dL_law_1017 : decode cL_law 1017 = .ok (.aload_n 1, 1) := by decide +kernel
theorem dL_law_1018 : decode cL_law 1018 = .ok (.aload_n 0, 1) := by decide +kernel
theorem dL_law_1019 : decode cL_law 1019 = .ok (.iload_n 3, 1) := by decide +kernel
theorem dL_law_1020 : decode cL_law 1020 = .ok (.iconst 1, 1) := by decide +kernel
theorem dL_law_1021 : decode cL_law 1021 = .ok (.iadd, 1) := by decide +kernel
theorem dL_law_1022 : decode cL_law 1022 = .ok (.iaload, 1) := by decide +kernel
theorem dL_law_1023 : decode cL_law 1023 = .ok (.aload_n 0, 1) := by decide +kernel
theorem dL_law_1024 : decode cL_law 1024 = .ok (.iload_n 3, 1) := by decide +kernel
theorem dL_law_1025 : decode cL_law 1025 = .ok (.iconst 2, 1) := by decide +kernel
theorem dL_law_1026 : decode cL_law 1026 = .ok (.iadd, 1) := by decide +kernel
theorem dL_law_1027 : decode cL_law 1027 = .ok (.iaload, 1) := by decide +kernel
theorem dL_law_1028 : decode cL_law 1028 = .ok (.invokevirtual 144, 3) := by decide +kernel
theorem dL_law_1031 : decode cL_law 1031 = .ok (.aload_n 2, 1) := by decide +kernel
theorem dL_law_1032 : decode cL_law 1032 = .ok (.aload_n 0, 1) := by decide +kernel
theorem dL_law_1033 : decode cL_law 1033 = .ok (.iload_n 3, 1) := by decide +kernel
theorem dL_law_1034 : decode cL_law 1034 = .ok (.iconst 1, 1) := by decide +kernel
theorem dL_law_1035 : decode cL_law 1035 = .ok (.iadd, 1) := by decide +kernel
theorem dL_law_1036 : decode cL_law 1036 = .ok (.iaload, 1) := by decide +kernel
theorem dL_law_1037 : decode cL_law 1037 = .ok (.aload_n 0, 1) := by decide +kernel
theorem dL_law_1038 : decode cL_law 1038 = .ok (.iload_n 3, 1) := by decide +kernel
theorem dL_law_1039 : decode cL_law 1039 = .ok (.iconst 2, 1) := by decide +kernel
theorem dL_law_1040 : decode cL_law 1040 = .ok (.iadd, 1) := by decide +kernel
theorem dL_law_1041 : decode cL_law 1041 = .ok (.iaload, 1) := by decide +kernel
theorem dL_law_1042 : decode cL_law 1042 = .ok (.invokevirtual 147, 3) := by decide +kernel
theorem dL_law_1045 : decode cL_law 1045 = .ok (.if_icmp .eq 192, 3) := by decide +kernel
theorem dL_law_1048 : decode cL_law 1048 = .ok (.iconst 0, 1) := by decide +kernel
theorem dL_law_1049 : decode cL_law 1049 = .ok (.ireturn, 1) := by decide +kernel
theorem dL_law_1050 : decode cL_law 1050 = .ok (.aload_n 1, 1) := by decide +kernel
theorem dL_law_1051 : decode cL_law 1051 = .ok (.aload_n 0, 1) := by decide +kernel
theorem dL_law_1052 : decode cL_law 1052 = .ok (.iload_n 3, 1) := by decide +kernel
theorem dL_law_1053 : decode cL_law 1053 = .ok (.iconst 1, 1) := by decide +kernel
theorem dL_law_1054 : decode cL_law 1054 = .ok (.iadd, 1) := by decide +kernel
theorem dL_law_1055 : decode cL_law 1055 = .ok (.iaload, 1) := by decide +kernel
theorem dL_law_1056 : decode cL_law 1056 = .ok (.invokevirtual 148, 3) := by decide +kernel
theorem dL_law_1059 : decode cL_law 1059 = .ok (.aload_n 2, 1) := by decide +kernel
theorem dL_law_1060 : decode cL_law 1060 = .ok (.aload_n 0, 1) := by decide +kernel
theorem dL_law_1061 : decode cL_law 1061 = .ok (.iload_n 3, 1) := by decide +kernel
theorem dL_law_1062 : decode cL_law 1062 = .ok (.iconst 1, 1) := by decide +kernel
theorem dL_law_1063 : decode cL_law 1063 = .ok (.iadd, 1) := by decide +kernel
theorem dL_law_1064 : decode cL_law 1064 = .ok (.iaload, 1) := by decide +kernel
theorem dL_law_1065 : decode cL_law 1065 = .ok (.invokevirtual 151, 3) := by decide +kernel
theorem dL_law_1068 : decode cL_law 1068 = .ok (.if_icmp .eq 169, 3) := by decide +kernel
theorem dL_law_1071 : decode cL_law 1071 = .ok (.iconst 0, 1) := by decide +kernel
theorem dL_law_1072 : decode cL_law 1072 = .ok (.ireturn, 1) := by decide +kernel
theorem dL_law_1073 : decode cL_law 1073 = .ok (.aload_n 1, 1) := by decide +kernel
theorem dL_law_1074 : decode cL_law 1074 = .ok (.aload_n 0, 1) := by decide +kernel
theorem dL_law_1075 : decode cL_law 1075 = .ok (.iload_n 3, 1) := by decide +kernel
theorem dL_law_1076 : decode cL_law 1076 = .ok (.iconst 1, 1) := by decide +kernel
theorem dL_law_1077 : decode cL_law 1077 = .ok (.iadd, 1) := by decide +kernel
theorem dL_law_1078 : decode cL_law 1078 = .ok (.iaload, 1) := by decide +kernel
theorem dL_law_1079 : decode cL_law 1079 = .ok (.invokevirtual 152, 3) := by decide +kernel
theorem dL_law_1082 : decode cL_law 1082 = .ok (.aload_n 2, 1) := by decide +kernel
theorem dL_law_1083 : decode cL_law 1083 = .ok (.aload_n 0, 1) := by decide +kernel
theorem dL_law_1084 : decode cL_law 1084 = .ok (.iload_n 3, 1) := by decide +kernel
theorem dL_law_1085 : decode cL_law 1085 = .ok (.iconst 1, 1) := by decide +kernel
theorem dL_law_1086 : decode cL_law 1086 = .ok (.iadd, 1) := by decide +kernel
theorem dL_law_1087 : decode cL_law 1087 = .ok (.iaload, 1) := by decide +kernel
theorem dL_law_1088 : decode cL_law 1088 = .ok (.invokevirtual 155, 3) := by decide +kernel
theorem dL_law_1091 : decode cL_law 1091 = .ok (.if_icmp .eq 146, 3) := by decide +kernel
theorem dL_law_1094 : decode cL_law 1094 = .ok (.iconst 0, 1) := by decide +kernel
theorem dL_law_1095 : decode cL_law 1095 = .ok (.ireturn, 1) := by decide +kernel
theorem dL_law_1096 : decode cL_law 1096 = .ok (.aload_n 1, 1) := by decide +kernel
theorem dL_law_1097 : decode cL_law 1097 = .ok (.aload_n 0, 1) := by decide +kernel
theorem dL_law_1098 : decode cL_law 1098 = .ok (.iload_n 3, 1) := by decide +kernel
theorem dL_law_1099 : decode cL_law 1099 = .ok (.iconst 1, 1) := by decide +kernel
theorem dL_law_1100 : decode cL_law 1100 = .ok (.iadd, 1) := by decide +kernel
theorem dL_law_1101 : decode cL_law 1101 = .ok (.iaload, 1) := by decide +kernel
theorem dL_law_1102 : decode cL_law 1102 = .ok (.invokevirtual 156, 3) := by decide +kernel
theorem dL_law_1105 : decode cL_law 1105 = .ok (.aload_n 2, 1) := by decide +kernel
theorem dL_law_1106 : decode cL_law 1106 = .ok (.aload_n 0, 1) := by decide +kernel
theorem dL_law_1107 : decode cL_law 1107 = .ok (.iload_n 3, 1) := by decide +kernel
theorem dL_law_1108 : decode cL_law 1108 = .ok (.iconst 1, 1) := by decide +kernel
theorem dL_law_1109 : decode cL_law 1109 = .ok (.iadd, 1) := by decide +kernel
theorem dL_law_1110 : decode cL_law 1110 = .ok (.iaload, 1) := by decide +kernel
theorem dL_law_1111 : decode cL_law 1111 = .ok (.invokevirtual 159, 3) := by decide +kernel
theorem dL_law_1114 : decode cL_law 1114 = .ok (.if_icmp .eq 123, 3) := by decide +kernel
theorem dL_law_1117 : decode cL_law 1117 = .ok (.iconst 0, 1) := by decide +kernel
theorem dL_law_1118 : decode cL_law 1118 = .ok (.ireturn, 1) := by decide +kernel
theorem dL_law_1119 : decode cL_law 1119 = .ok (.aload_n 1, 1) := by decide +kernel
theorem dL_law_1120 : decode cL_law 1120 = .ok (.invokevirtual 160, 3) := by decide +kernel
theorem dL_law_1123 : decode cL_law 1123 = .ok (.aload_n 2, 1) := by decide +kernel
theorem dL_law_1124 : decode cL_law 1124 = .ok (.invokevirtual 163, 3) := by decide +kernel
theorem dL_law_1127 : decode cL_law 1127 = .ok (.if_icmp .eq 110, 3) := by decide +kernel
theorem dL_law_1130 : decode cL_law 1130 = .ok (.iconst 0, 1) := by decide +kernel
theorem dL_law_1131 : decode cL_law 1131 = .ok (.ireturn, 1) := by decide +kernel
theorem dL_law_1132 : decode cL_law 1132 = .ok (.aload_n 1, 1) := by decide +kernel
theorem dL_law_1133 : decode cL_law 1133 = .ok (.invokevirtual 164, 3) := by decide +kernel
theorem dL_law_1136 : decode cL_law 1136 = .ok (.aload_n 2, 1) := by decide +kernel
theorem dL_law_1137 : decode cL_law 1137 = .ok (.invokevirtual 167, 3) := by decide +kernel
theorem dL_law_1140 : decode cL_law 1140 = .ok (.if_icmp .eq 97, 3) := by decide +kernel
theorem dL_law_1143 : decode cL_law 1143 = .ok (.iconst 0, 1) := by decide +kernel
theorem dL_law_1144 : decode cL_law 1144 = .ok (.ireturn, 1) := by decide +kernel
theorem dL_law_1145 : decode cL_law 1145 = .ok (.aload_n 1, 1) := by decide +kernel
theorem dL_law_1146 : decode cL_law 1146 = .ok (.aload_n 0, 1) := by decide +kernel
theorem dL_law_1147 : decode cL_law 1147 = .ok (.iload_n 3, 1) := by decide +kernel
theorem dL_law_1148 : decode cL_law 1148 = .ok (.iconst 1, 1) := by decide +kernel
theorem dL_law_1149 : decode cL_law 1149 = .ok (.iadd, 1) := by decide +kernel
theorem dL_law_1150 : decode cL_law 1150 = .ok (.iaload, 1) := by decide +kernel
theorem dL_law_1151 : decode cL_law 1151 = .ok (.aload_n 0, 1) := by decide +kernel
theorem dL_law_1152 : decode cL_law 1152 = .ok (.iload_n 3, 1) := by decide +kernel
theorem dL_law_1153 : decode cL_law 1153 = .ok (.iconst 2, 1) := by decide +kernel
theorem dL_law_1154 : decode cL_law 1154 = .ok (.iadd, 1) := by decide +kernel
theorem dL_law_1155 : decode cL_law 1155 = .ok (.iaload, 1) := by decide +kernel
theorem dL_law_1156 : decode cL_law 1156 = .ok (.aload_n 0, 1) := by decide +kernel
theorem dL_law_1157 : decode cL_law 1157 = .ok (.iload_n 3, 1) := by decide +kernel
theorem dL_law_1158 : decode cL_law 1158 = .ok (.iconst 3, 1) := by decide +kernel
theorem dL_law_1159 : decode cL_law 1159 = .ok (.iadd, 1) := by decide +kernel
theorem dL_law_1160 : decode cL_law 1160 = .ok (.iaload, 1) := by decide +kernel
theorem dL_law_1161 : decode cL_law 1161 = .ok (.invokevirtual 168, 3) := by decide +kernel
theorem dL_law_1164 : decode cL_law 1164 = .ok (.aload_n 2, 1) := by decide +kernel
theorem dL_law_1165 : decode cL_law 1165 = .ok (.aload_n 0, 1) := by decide +kernel
theorem dL_law_1166 : decode cL_law 1166 = .ok (.iload_n 3, 1) := by decide +kernel
theorem dL_law_1167 : decode cL_law 1167 = .ok (.iconst 1, 1) := by decide +kernel
theorem dL_law_1168 : decode cL_law 1168 = .ok (.iadd, 1) := by decide +kernel
theorem dL_law_1169 : decode cL_law 1169 = .ok (.iaload, 1) := by decide +kernel
theorem dL_law_1170 : decode cL_law 1170 = .ok (.aload_n 0, 1) := by decide +kernel
theorem dL_law_1171 : decode cL_law 1171 = .ok (.iload_n 3, 1) := by decide +kernel
theorem dL_law_1172 : decode cL_law 1172 = .ok (.iconst 2, 1) := by decide +kernel
theorem dL_law_1173 : decode cL_law 1173 = .ok (.iadd, 1) := by decide +kernel
theorem dL_law_1174 : decode cL_law 1174 = .ok (.iaload, 1) := by decide +kernel
theorem dL_law_1175 : decode cL_law 1175 = .ok (.aload_n 0, 1) := by decide +kernel
theorem dL_law_1176 : decode cL_law 1176 = .ok (.iload_n 3, 1) := by decide +kernel
theorem dL_law_1177 : decode cL_law 1177 = .ok (.iconst 3, 1) := by decide +kernel
theorem dL_law_1178 : decode cL_law 1178 = .ok (.iadd, 1) := by decide +kernel
theorem dL_law_1179 : decode cL_law 1179 = .ok (.iaload, 1) := by decide +kernel
theorem dL_law_1180 : decode cL_law 1180 = .ok (.invokevirtual 171, 3) := by decide +kernel
theorem dL_law_1183 : decode cL_law 1183 = .ok (.if_icmp .eq 54, 3) := by decide +kernel
theorem dL_law_1186 : decode cL_law 1186 = .ok (.iconst 0, 1) := by decide +kernel
theorem dL_law_1187 : decode cL_law 1187 = .ok (.ireturn, 1) := by decide +kernel
theorem dL_law_1188 : decode cL_law 1188 = .ok (.aload_n 1, 1) := by decide +kernel
theorem dL_law_1189 : decode cL_law 1189 = .ok (.invokevirtual 172, 3) := by decide +kernel
theorem dL_law_1192 : decode cL_law 1192 = .ok (.aload_n 2, 1) := by decide +kernel
theorem dL_law_1193 : decode cL_law 1193 = .ok (.invokevirtual 175, 3) := by decide +kernel
theorem dL_law_1196 : decode cL_law 1196 = .ok (.if_icmp .eq 41, 3) := by decide +kernel
theorem dL_law_1199 : decode cL_law 1199 = .ok (.iconst 0, 1) := by decide +kernel
theorem dL_law_1200 : decode cL_law 1200 = .ok (.ireturn, 1) := by decide +kernel
theorem dL_law_1201 : decode cL_law 1201 = .ok (.aload_n 1, 1) := by decide +kernel
theorem dL_law_1202 : decode cL_law 1202 = .ok (.invokevirtual 176, 3) := by decide +kernel
theorem dL_law_1205 : decode cL_law 1205 = .ok (.aload_n 2, 1) := by decide +kernel
theorem dL_law_1206 : decode cL_law 1206 = .ok (.invokevirtual 179, 3) := by decide +kernel
theorem dL_law_1209 : decode cL_law 1209 = .ok (.if_icmp .eq 28, 3) := by decide +kernel
theorem dL_law_1212 : decode cL_law 1212 = .ok (.iconst 0, 1) := by decide +kernel
theorem dL_law_1213 : decode cL_law 1213 = .ok (.ireturn, 1) := by decide +kernel
theorem dL_law_1214 : decode cL_law 1214 = .ok (.aload_n 1, 1) := by decide +kernel
theorem dL_law_1215 : decode cL_law 1215 = .ok (.aload_n 0, 1) := by decide +kernel
theorem dL_law_1216 : decode cL_law 1216 = .ok (.iload_n 3, 1) := by decide +kernel
theorem dL_law_1217 : decode cL_law 1217 = .ok (.iconst 1, 1) := by decide +kernel
theorem dL_law_1218 : decode cL_law 1218 = .ok (.iadd, 1) := by decide +kernel
theorem dL_law_1219 : decode cL_law 1219 = .ok (.iaload, 1) := by decide +kernel
theorem dL_law_1220 : decode cL_law 1220 = .ok (.invokevirtual 180, 3) := by decide +kernel
theorem dL_law_1223 : decode cL_law 1223 = .ok (.aload_n 2, 1) := by decide +kernel
theorem dL_law_1224 : decode cL_law 1224 = .ok (.aload_n 0, 1) := by decide +kernel
theorem dL_law_1225 : decode cL_law 1225 = .ok (.iload_n 3, 1) := by decide +kernel
theorem dL_law_1226 : decode cL_law 1226 = .ok (.iconst 1, 1) := by decide +kernel
theorem dL_law_1227 : decode cL_law 1227 = .ok (.iadd, 1) := by decide +kernel
theorem dL_law_1228 : decode cL_law 1228 = .ok (.iaload, 1) := by decide +kernel
theorem dL_law_1229 : decode cL_law 1229 = .ok (.invokevirtual 183, 3) := by decide +kernel
theorem dL_law_1232 : decode cL_law 1232 = .ok (.if_icmp .eq 5, 3) := by decide +kernel
theorem dL_law_1235 : decode cL_law 1235 = .ok (.iconst 0, 1) := by decide +kernel
theorem dL_law_1236 : decode cL_law 1236 = .ok (.ireturn, 1) := by decide +kernel
theorem dL_law_1237 : decode cL_law 1237 = .ok (.iinc 3 5, 3) := by decide +kernel
theorem dL_law_1240 : decode cL_law 1240 = .ok (.goto (-1222), 3) := by decide +kernel
theorem dL_law_1243 : decode cL_law 1243 = .ok (.iconst 1, 1) := by decide +kernel
theorem dL_law_1244 : decode cL_law 1244 = .ok (.ireturn, 1) := by decide +kernel
set_option maxRecDepth 20000 in
def EL (G : GG) (b Ls : Nat) (xs : Nat → Int32) : Array Value → State → Prop := fun args s => args = #[Value.ref b] ∧ va_X b Ls xs s s.heap ∧ b < s.heap.size ∧ G.2.2.2.2.1 = s.heap.size
def ZL : Array Value → State → List Frame → State → Prop := fun a s below => lw_Z below a s
abbrev AL (G : GG) (b : Nat) (xs : Nat → Int32) (Ls : Nat) (_ : MM → Prop) := AW G (EL G b Ls xs) ZL lw_tbl RL cL_law 4 ret room_1 84 6045
theorem gL_nb {G : GG} {b Ls : Nat} {xs : Nat → Int32} {args : Array Value} {s : State} (h : EL G b Ls xs args s) : ¬ gB G b := by
  unfold gB; rw [h.2.2.2]; exact Nat.not_le.mpr h.2.2.1
section AM5
variable {G : GG} {Z : Array Value → State → List Frame → State → Prop} {Ts : List Cond} {own : String} {cc : ByteArray} {nL : Nat} {rt : Option FieldType} {R : Room} {ce sl : Nat} {pc : Nat} {L : List (Nat × Value)} {rest : List Value} {M : MM} {b Ls : Nat} {xs : Nat → Int32}
theorem a_sld {i : Int32} (hd : decode cc pc = .ok (.iaload, 1)) (hi : vp_in i Ls) (kk : AW G (EL G b Ls xs) Z Ts own cc nL rt R ce sl (pc + 1) L (.int (xs (ix i)) :: rest) M) : AW G (EL G b Ls xs) Z Ts own cc nL rt R ce sl pc L (.int i :: .ref b :: rest) M :=
  fun p e s m args below meth c H locs ls h => va_sld h.1 h.2.1 h.2.2.2.2.2.2.2.2.2.2.2.2.1.2.1 h.2.2.2.2.2.2.2.2.2.2.2.2.1.2.2.1 (gL_nb h.2.2.2.2.2.2.2.2.2.2.2.2.1) h.2.2.2.2.2.2.2.2.2.2.1 hi hd (kk p e s m args below meth c H locs ls h)
theorem a_slen (hd : decode cc pc = .ok (.arraylength, 1)) (kk : AW G (EL G b Ls xs) Z Ts own cc nL rt R ce sl (pc + 1) L (.int (nI Ls) :: rest) M) : AW G (EL G b Ls xs) Z Ts own cc nL rt R ce sl pc L (.ref b :: rest) M :=
  fun p e s m args below meth c H locs ls h => va_slen h.1 h.2.1 h.2.2.2.2.2.2.2.2.2.2.2.2.1.2.1 h.2.2.2.2.2.2.2.2.2.2.2.2.1.2.2.1 (gL_nb h.2.2.2.2.2.2.2.2.2.2.2.2.1) h.2.2.2.2.2.2.2.2.2.2.1 hd (kk p e s m args below meth c H locs ls h)
theorem a_lwret (hd : decode cL_law pc = .ok (.ireturn, 1)) (hc : ce ≤ 600000 := by exact Nat.le_of_ble_eq_true rfl) (hs : sl ≤ 7302250 := by exact Nat.le_of_ble_eq_true rfl) : AW G (EL G b Ls xs) ZL Ts own cL_law nL ret room_1 ce sl pc L [.int 1] M := by
  intro p e s m args below meth c H locs ls h
  obtain ⟨hx, hb, hr, hlk, hml, hown, hts, hK, hP, hD, hS, hbs, ⟨rfl, hX, hbl, hba⟩, hl⟩ := h
  refine va_forget (fun q hq => ?_) (W.widen hc hs (lw_ret hx hb hr hlk hd))
  have h1 := hS.2.2 q hq
  unfold gB at h1
  rw [← hba]
  exact h1
end AM5
def DL_c1237 (xs : Nat → Int32) (Ls : Nat) (K18 : Int32 → MM → Prop) (Q : MM → Prop) (x3 : Int32) (M : MM) : Prop := (fun v165 : Int32 => K18 v165 M) (x3 + (5 : Int32))
def DL_c18 (xs : Nat → Int32) (Ls : Nat) (Q : MM → Prop) : Nat → Int32 → MM → Prop
  | 0, _, _ => False
  | n + 1, x3, M => ((((nI Ls) - (5 : Int32)) < x3 → True) ∧ (¬ ((nI Ls) - (5 : Int32)) < x3 → vp_in x3 Ls ∧ ((((xs (ix x3)) &&& (63 : Int32)) = 0 → vp_in (x3 + (1 : Int32)) Ls ∧ D4_feed (xs (ix (x3 + (1 : Int32)))) M (fun (r1 : Int32) (M2 : MM) => vp_in (x3 + (1 : Int32)) Ls ∧ D5_feed (xs (ix (x3 + (1 : Int32)))) M2 (fun (r3 : Int32) (M4 : MM) => ((r1 = r3 → DL_c1237 xs Ls (DL_c18 xs Ls Q n) Q x3 M4) ∧ (¬ r1 = r3 → False))))) ∧ (¬ ((xs (ix x3)) &&& (63 : Int32)) = 0 → ((((xs (ix x3)) &&& (63 : Int32)) = 1 → D4_beach M (fun (r5 : Int32) (M6 : MM) => D5_beach M6 (fun (r7 : Int32) (M8 : MM) => ((r5 = r7 → DL_c1237 xs Ls (DL_c18 xs Ls Q n) Q x3 M8) ∧ (¬ r5 = r7 → False))))) ∧ (¬ ((xs (ix x3)) &&& (63 : Int32)) = 1 → ((((xs (ix x3)) &&& (63 : Int32)) = 2 → vp_in (x3 + (1 : Int32)) Ls ∧ vp_in (x3 + (2 : Int32)) Ls ∧ D4_workOf (xs (ix (x3 + (1 : Int32)))) (xs (ix (x3 + (2 : Int32)))) M (fun (r9 : Int32) (M10 : MM) => vp_in (x3 + (1 : Int32)) Ls ∧ vp_in (x3 + (2 : Int32)) Ls ∧ D5_workOf (xs (ix (x3 + (1 : Int32)))) (xs (ix (x3 + (2 : Int32)))) M10 (fun (r11 : Int32) (M12 : MM) => ((r9 = r11 → DL_c1237 xs Ls (DL_c18 xs Ls Q n) Q x3 M12) ∧ (¬ r9 = r11 → False))))) ∧ (¬ ((xs (ix x3)) &&& (63 : Int32)) = 2 → ((((xs (ix x3)) &&& (63 : Int32)) = 3 → vp_in (x3 + (1 : Int32)) Ls ∧ D4_at (xs (ix (x3 + (1 : Int32)))) M (fun (r13 : Int32) (M14 : MM) => vp_in (x3 + (1 : Int32)) Ls ∧ D5_at (xs (ix (x3 + (1 : Int32)))) M14 (fun (r15 : Int32) (M16 : MM) => ((r13 = r15 → DL_c1237 xs Ls (DL_c18 xs Ls Q n) Q x3 M16) ∧ (¬ r13 = r15 → False))))) ∧ (¬ ((xs (ix x3)) &&& (63 : Int32)) = 3 → ((((xs (ix x3)) &&& (63 : Int32)) = 4 → vp_in (x3 + (1 : Int32)) Ls ∧ vp_in (x3 + (2 : Int32)) Ls ∧ vp_in (x3 + (3 : Int32)) Ls ∧ D4_work (xs (ix (x3 + (1 : Int32)))) (xs (ix (x3 + (2 : Int32)))) (xs (ix (x3 + (3 : Int32)))) M (fun (r17 : Int32) (M18 : MM) => vp_in (x3 + (1 : Int32)) Ls ∧ vp_in (x3 + (2 : Int32)) Ls ∧ vp_in (x3 + (3 : Int32)) Ls ∧ D5_work (xs (ix (x3 + (1 : Int32)))) (xs (ix (x3 + (2 : Int32)))) (xs (ix (x3 + (3 : Int32)))) M18 (fun (r19 : Int32) (M20 : MM) => ((r17 = r19 → DL_c1237 xs Ls (DL_c18 xs Ls Q n) Q x3 M20) ∧ (¬ r17 = r19 → False))))) ∧ (¬ ((xs (ix x3)) &&& (63 : Int32)) = 4 → ((((xs (ix x3)) &&& (63 : Int32)) = 5 → vp_in (x3 + (1 : Int32)) Ls ∧ D4_razes (xs (ix (x3 + (1 : Int32)))) M (fun (r21 : Int32) (M22 : MM) => vp_in (x3 + (1 : Int32)) Ls ∧ D5_razes (xs (ix (x3 + (1 : Int32)))) M22 (fun (r23 : Int32) (M24 : MM) => ((r21 = r23 → DL_c1237 xs Ls (DL_c18 xs Ls Q n) Q x3 M24) ∧ (¬ r21 = r23 → False))))) ∧ (¬ ((xs (ix x3)) &&& (63 : Int32)) = 5 → ((((xs (ix x3)) &&& (63 : Int32)) = 6 → vp_in (x3 + (1 : Int32)) Ls ∧ D4_fixes (xs (ix (x3 + (1 : Int32)))) M (fun (r25 : Int32) (M26 : MM) => vp_in (x3 + (1 : Int32)) Ls ∧ D5_fixes (xs (ix (x3 + (1 : Int32)))) M26 (fun (r27 : Int32) (M28 : MM) => ((r25 = r27 → DL_c1237 xs Ls (DL_c18 xs Ls Q n) Q x3 M28) ∧ (¬ r25 = r27 → False))))) ∧ (¬ ((xs (ix x3)) &&& (63 : Int32)) = 6 → ((((xs (ix x3)) &&& (63 : Int32)) = 7 → D4_pays M (fun (r29 : Int32) (M30 : MM) => D5_pays M30 (fun (r31 : Int32) (M32 : MM) => ((r29 = r31 → DL_c1237 xs Ls (DL_c18 xs Ls Q n) Q x3 M32) ∧ (¬ r29 = r31 → False))))) ∧ (¬ ((xs (ix x3)) &&& (63 : Int32)) = 7 → ((((xs (ix x3)) &&& (63 : Int32)) = 8 → vp_in (x3 + (1 : Int32)) Ls ∧ D4_hours (xs (ix (x3 + (1 : Int32)))) M (fun (r33 : Int32) (M34 : MM) => vp_in (x3 + (1 : Int32)) Ls ∧ D5_hours (xs (ix (x3 + (1 : Int32)))) M34 (fun (r35 : Int32) (M36 : MM) => ((r33 = r35 → DL_c1237 xs Ls (DL_c18 xs Ls Q n) Q x3 M36) ∧ (¬ r33 = r35 → False))))) ∧ (¬ ((xs (ix x3)) &&& (63 : Int32)) = 8 → ((((xs (ix x3)) &&& (63 : Int32)) = 9 → D4_back M (fun (r37 : Int32) (M38 : MM) => D5_back M38 (fun (r39 : Int32) (M40 : MM) => ((r37 = r39 → DL_c1237 xs Ls (DL_c18 xs Ls Q n) Q x3 M40) ∧ (¬ r37 = r39 → False))))) ∧ (¬ ((xs (ix x3)) &&& (63 : Int32)) = 9 → ((((xs (ix x3)) &&& (63 : Int32)) = 10 → vp_in (x3 + (1 : Int32)) Ls ∧ D4_level (xs (ix (x3 + (1 : Int32)))) M (fun (r41 : Int32) (M42 : MM) => vp_in (x3 + (1 : Int32)) Ls ∧ D5_level (xs (ix (x3 + (1 : Int32)))) M42 (fun (r43 : Int32) (M44 : MM) => ((r41 = r43 → DL_c1237 xs Ls (DL_c18 xs Ls Q n) Q x3 M44) ∧ (¬ r41 = r43 → False))))) ∧ (¬ ((xs (ix x3)) &&& (63 : Int32)) = 10 → ((((xs (ix x3)) &&& (63 : Int32)) = 11 → vp_in (x3 + (1 : Int32)) Ls ∧ D4_wet (xs (ix (x3 + (1 : Int32)))) M (fun (r45 : Int32) (M46 : MM) => vp_in (x3 + (1 : Int32)) Ls ∧ D5_wet (xs (ix (x3 + (1 : Int32)))) M46 (fun (r47 : Int32) (M48 : MM) => ((r45 = r47 → DL_c1237 xs Ls (DL_c18 xs Ls Q n) Q x3 M48) ∧ (¬ r45 = r47 → False))))) ∧ (¬ ((xs (ix x3)) &&& (63 : Int32)) = 11 → ((((xs (ix x3)) &&& (63 : Int32)) = 12 → vp_in (x3 + (1 : Int32)) Ls ∧ vp_in (x3 + (2 : Int32)) Ls ∧ D4_then (xs (ix (x3 + (1 : Int32)))) (xs (ix (x3 + (2 : Int32)))) M (fun (r49 : Int32) (M50 : MM) => vp_in (x3 + (1 : Int32)) Ls ∧ vp_in (x3 + (2 : Int32)) Ls ∧ D5_then (xs (ix (x3 + (1 : Int32)))) (xs (ix (x3 + (2 : Int32)))) M50 (fun (r51 : Int32) (M52 : MM) => ((r49 = r51 → DL_c1237 xs Ls (DL_c18 xs Ls Q n) Q x3 M52) ∧ (¬ r49 = r51 → False))))) ∧ (¬ ((xs (ix x3)) &&& (63 : Int32)) = 12 → ((((xs (ix x3)) &&& (63 : Int32)) = 13 → vp_in (x3 + (1 : Int32)) Ls ∧ D4_floods (xs (ix (x3 + (1 : Int32)))) M (fun (r53 : Int32) (M54 : MM) => vp_in (x3 + (1 : Int32)) Ls ∧ D5_floods (xs (ix (x3 + (1 : Int32)))) M54 (fun (r55 : Int32) (M56 : MM) => ((r53 = r55 → DL_c1237 xs Ls (DL_c18 xs Ls Q n) Q x3 M56) ∧ (¬ r53 = r55 → False))))) ∧ (¬ ((xs (ix x3)) &&& (63 : Int32)) = 13 → ((((xs (ix x3)) &&& (63 : Int32)) = 14 → vp_in (x3 + (1 : Int32)) Ls ∧ D4_dry (xs (ix (x3 + (1 : Int32)))) M (fun (r57 : Int32) (M58 : MM) => vp_in (x3 + (1 : Int32)) Ls ∧ D5_dry (xs (ix (x3 + (1 : Int32)))) M58 (fun (r59 : Int32) (M60 : MM) => ((r57 = r59 → DL_c1237 xs Ls (DL_c18 xs Ls Q n) Q x3 M60) ∧ (¬ r57 = r59 → False))))) ∧ (¬ ((xs (ix x3)) &&& (63 : Int32)) = 14 → ((((xs (ix x3)) &&& (63 : Int32)) = 15 → vp_in (x3 + (1 : Int32)) Ls ∧ D4_driest (xs (ix (x3 + (1 : Int32)))) M (fun (r61 : Int32) (M62 : MM) => vp_in (x3 + (1 : Int32)) Ls ∧ D5_driest (xs (ix (x3 + (1 : Int32)))) M62 (fun (r63 : Int32) (M64 : MM) => ((r61 = r63 → DL_c1237 xs Ls (DL_c18 xs Ls Q n) Q x3 M64) ∧ (¬ r61 = r63 → False))))) ∧ (¬ ((xs (ix x3)) &&& (63 : Int32)) = 15 → ((((xs (ix x3)) &&& (63 : Int32)) = 16 → vp_in (x3 + (1 : Int32)) Ls ∧ D4_falls (xs (ix (x3 + (1 : Int32)))) M (fun (r65 : Int32) (M66 : MM) => vp_in (x3 + (1 : Int32)) Ls ∧ D5_falls (xs (ix (x3 + (1 : Int32)))) M66 (fun (r67 : Int32) (M68 : MM) => ((r65 = r67 → DL_c1237 xs Ls (DL_c18 xs Ls Q n) Q x3 M68) ∧ (¬ r65 = r67 → False))))) ∧ (¬ ((xs (ix x3)) &&& (63 : Int32)) = 16 → ((((xs (ix x3)) &&& (63 : Int32)) = 17 → vp_in (x3 + (1 : Int32)) Ls ∧ vp_in (x3 + (2 : Int32)) Ls ∧ vp_in (x3 + (3 : Int32)) Ls ∧ D4_keep (xs (ix (x3 + (1 : Int32)))) (xs (ix (x3 + (2 : Int32)))) (xs (ix (x3 + (3 : Int32)))) M (fun (r69 : Int32) (M70 : MM) => vp_in (x3 + (1 : Int32)) Ls ∧ vp_in (x3 + (2 : Int32)) Ls ∧ vp_in (x3 + (3 : Int32)) Ls ∧ D5_keep (xs (ix (x3 + (1 : Int32)))) (xs (ix (x3 + (2 : Int32)))) (xs (ix (x3 + (3 : Int32)))) M70 (fun (r71 : Int32) (M72 : MM) => ((r69 = r71 → DL_c1237 xs Ls (DL_c18 xs Ls Q n) Q x3 M72) ∧ (¬ r69 = r71 → False))))) ∧ (¬ ((xs (ix x3)) &&& (63 : Int32)) = 17 → ((((xs (ix x3)) &&& (63 : Int32)) = 18 → vp_in (x3 + (1 : Int32)) Ls ∧ vp_in (x3 + (2 : Int32)) Ls ∧ vp_in (x3 + (3 : Int32)) Ls ∧ vp_in (x3 + (4 : Int32)) Ls ∧ D4_best (xs (ix (x3 + (1 : Int32)))) (xs (ix (x3 + (2 : Int32)))) (xs (ix (x3 + (3 : Int32)))) (xs (ix (x3 + (4 : Int32)))) M (fun (r73 : Int32) (M74 : MM) => vp_in (x3 + (1 : Int32)) Ls ∧ vp_in (x3 + (2 : Int32)) Ls ∧ vp_in (x3 + (3 : Int32)) Ls ∧ vp_in (x3 + (4 : Int32)) Ls ∧ D5_best (xs (ix (x3 + (1 : Int32)))) (xs (ix (x3 + (2 : Int32)))) (xs (ix (x3 + (3 : Int32)))) (xs (ix (x3 + (4 : Int32)))) M74 (fun (r75 : Int32) (M76 : MM) => ((r73 = r75 → DL_c1237 xs Ls (DL_c18 xs Ls Q n) Q x3 M76) ∧ (¬ r73 = r75 → False))))) ∧ (¬ ((xs (ix x3)) &&& (63 : Int32)) = 18 → ((((xs (ix x3)) &&& (63 : Int32)) = 19 → vp_in (x3 + (1 : Int32)) Ls ∧ D4_dredge (xs (ix (x3 + (1 : Int32)))) M (fun (r77 : Int32) (M78 : MM) => vp_in (x3 + (1 : Int32)) Ls ∧ D5_dredge (xs (ix (x3 + (1 : Int32)))) M78 (fun (r79 : Int32) (M80 : MM) => ((r77 = r79 → DL_c1237 xs Ls (DL_c18 xs Ls Q n) Q x3 M80) ∧ (¬ r77 = r79 → False))))) ∧ (¬ ((xs (ix x3)) &&& (63 : Int32)) = 19 → ((((xs (ix x3)) &&& (63 : Int32)) = 20 → vp_in (x3 + (1 : Int32)) Ls ∧ D4_round (xs (ix (x3 + (1 : Int32)))) M (fun (r81 : Int32) (M82 : MM) => vp_in (x3 + (1 : Int32)) Ls ∧ D5_round (xs (ix (x3 + (1 : Int32)))) M82 (fun (r83 : Int32) (M84 : MM) => ((r81 = r83 → DL_c1237 xs Ls (DL_c18 xs Ls Q n) Q x3 M84) ∧ (¬ r81 = r83 → False))))) ∧ (¬ ((xs (ix x3)) &&& (63 : Int32)) = 20 → ((((xs (ix x3)) &&& (63 : Int32)) = 21 → vp_in (x3 + (1 : Int32)) Ls ∧ D4_assessed (xs (ix (x3 + (1 : Int32)))) M (fun (r85 : Int32) (M86 : MM) => vp_in (x3 + (1 : Int32)) Ls ∧ D5_assessed (xs (ix (x3 + (1 : Int32)))) M86 (fun (r87 : Int32) (M88 : MM) => ((r85 = r87 → DL_c1237 xs Ls (DL_c18 xs Ls Q n) Q x3 M88) ∧ (¬ r85 = r87 → False))))) ∧ (¬ ((xs (ix x3)) &&& (63 : Int32)) = 21 → ((((xs (ix x3)) &&& (63 : Int32)) = 22 → vp_in (x3 + (1 : Int32)) Ls ∧ vp_in (x3 + (2 : Int32)) Ls ∧ D4_whatWas (xs (ix (x3 + (1 : Int32)))) (xs (ix (x3 + (2 : Int32)))) M (fun (r89 : Int32) (M90 : MM) => vp_in (x3 + (1 : Int32)) Ls ∧ vp_in (x3 + (2 : Int32)) Ls ∧ D5_whatWas (xs (ix (x3 + (1 : Int32)))) (xs (ix (x3 + (2 : Int32)))) M90 (fun (r91 : Int32) (M92 : MM) => ((r89 = r91 → DL_c1237 xs Ls (DL_c18 xs Ls Q n) Q x3 M92) ∧ (¬ r89 = r91 → False))))) ∧ (¬ ((xs (ix x3)) &&& (63 : Int32)) = 22 → ((((xs (ix x3)) &&& (63 : Int32)) = 23 → D4_howHigh M (fun (r93 : Int32) (M94 : MM) => D5_howHigh M94 (fun (r95 : Int32) (M96 : MM) => ((r93 = r95 → DL_c1237 xs Ls (DL_c18 xs Ls Q n) Q x3 M96) ∧ (¬ r93 = r95 → False))))) ∧ (¬ ((xs (ix x3)) &&& (63 : Int32)) = 23 → ((((xs (ix x3)) &&& (63 : Int32)) = 24 → vp_in (x3 + (1 : Int32)) Ls ∧ vp_in (x3 + (2 : Int32)) Ls ∧ D4_two (xs (ix (x3 + (1 : Int32)))) (xs (ix (x3 + (2 : Int32)))) M (fun (r97 : Int32) (M98 : MM) => vp_in (x3 + (1 : Int32)) Ls ∧ vp_in (x3 + (2 : Int32)) Ls ∧ D5_two (xs (ix (x3 + (1 : Int32)))) (xs (ix (x3 + (2 : Int32)))) M98 (fun (r99 : Int32) (M100 : MM) => ((r97 = r99 → DL_c1237 xs Ls (DL_c18 xs Ls Q n) Q x3 M100) ∧ (¬ r97 = r99 → False))))) ∧ (¬ ((xs (ix x3)) &&& (63 : Int32)) = 24 → ((((xs (ix x3)) &&& (63 : Int32)) = 25 → vp_in (x3 + (1 : Int32)) Ls ∧ vp_in (x3 + (2 : Int32)) Ls ∧ vp_in (x3 + (3 : Int32)) Ls ∧ vp_in (x3 + (4 : Int32)) Ls ∧ D4_swells (xs (ix (x3 + (1 : Int32)))) (xs (ix (x3 + (2 : Int32)))) (xs (ix (x3 + (3 : Int32)))) (xs (ix (x3 + (4 : Int32)))) M (fun (r101 : Int64) (M102 : MM) => vp_in (x3 + (1 : Int32)) Ls ∧ vp_in (x3 + (2 : Int32)) Ls ∧ vp_in (x3 + (3 : Int32)) Ls ∧ vp_in (x3 + (4 : Int32)) Ls ∧ D5_swells (xs (ix (x3 + (1 : Int32)))) (xs (ix (x3 + (2 : Int32)))) (xs (ix (x3 + (3 : Int32)))) (xs (ix (x3 + (4 : Int32)))) M102 (fun (r103 : Int64) (M104 : MM) => (((lg_cmp r101 r103) = 0 → DL_c1237 xs Ls (DL_c18 xs Ls Q n) Q x3 M104) ∧ (¬ (lg_cmp r101 r103) = 0 → False))))) ∧ (¬ ((xs (ix x3)) &&& (63 : Int32)) = 25 → ((((xs (ix x3)) &&& (63 : Int32)) = 26 → vp_in (x3 + (1 : Int32)) Ls ∧ vp_in (x3 + (2 : Int32)) Ls ∧ D4_shares (xs (ix (x3 + (1 : Int32)))) (xs (ix (x3 + (2 : Int32)))) M (fun (r105 : Int32) (M106 : MM) => vp_in (x3 + (1 : Int32)) Ls ∧ vp_in (x3 + (2 : Int32)) Ls ∧ D5_shares (xs (ix (x3 + (1 : Int32)))) (xs (ix (x3 + (2 : Int32)))) M106 (fun (r107 : Int32) (M108 : MM) => ((r105 = r107 → DL_c1237 xs Ls (DL_c18 xs Ls Q n) Q x3 M108) ∧ (¬ r105 = r107 → False))))) ∧ (¬ ((xs (ix x3)) &&& (63 : Int32)) = 26 → ((((xs (ix x3)) &&& (63 : Int32)) = 27 → vp_in (x3 + (1 : Int32)) Ls ∧ D4_weakest (xs (ix (x3 + (1 : Int32)))) M (fun (r109 : Int32) (M110 : MM) => vp_in (x3 + (1 : Int32)) Ls ∧ D5_weakest (xs (ix (x3 + (1 : Int32)))) M110 (fun (r111 : Int32) (M112 : MM) => ((r109 = r111 → DL_c1237 xs Ls (DL_c18 xs Ls Q n) Q x3 M112) ∧ (¬ r109 = r111 → False))))) ∧ (¬ ((xs (ix x3)) &&& (63 : Int32)) = 27 → ((((xs (ix x3)) &&& (63 : Int32)) = 28 → vp_in (x3 + (1 : Int32)) Ls ∧ D4_mean (xs (ix (x3 + (1 : Int32)))) M (fun (r113 : Int64) (M114 : MM) => vp_in (x3 + (1 : Int32)) Ls ∧ D5_mean (xs (ix (x3 + (1 : Int32)))) M114 (fun (r115 : Int64) (M116 : MM) => (((lg_cmp r113 r115) = 0 → DL_c1237 xs Ls (DL_c18 xs Ls Q n) Q x3 M116) ∧ (¬ (lg_cmp r113 r115) = 0 → False))))) ∧ (¬ ((xs (ix x3)) &&& (63 : Int32)) = 28 → ((((xs (ix x3)) &&& (63 : Int32)) = 29 → D4_low M (fun (r117 : Int32) (M118 : MM) => D5_low M118 (fun (r119 : Int32) (M120 : MM) => ((r117 = r119 → DL_c1237 xs Ls (DL_c18 xs Ls Q n) Q x3 M120) ∧ (¬ r117 = r119 → False))))) ∧ (¬ ((xs (ix x3)) &&& (63 : Int32)) = 29 → ((((xs (ix x3)) &&& (63 : Int32)) = 30 → D4_sand M (fun (r121 : Int32) (M122 : MM) => D5_sand M122 (fun (r123 : Int32) (M124 : MM) => ((r121 = r123 → DL_c1237 xs Ls (DL_c18 xs Ls Q n) Q x3 M124) ∧ (¬ r121 = r123 → False))))) ∧ (¬ ((xs (ix x3)) &&& (63 : Int32)) = 30 → ((((xs (ix x3)) &&& (63 : Int32)) = 31 → vp_in (x3 + (1 : Int32)) Ls ∧ vp_in (x3 + (2 : Int32)) Ls ∧ D4_mended (xs (ix (x3 + (1 : Int32)))) (xs (ix (x3 + (2 : Int32)))) M (fun (r125 : Int32) (M126 : MM) => vp_in (x3 + (1 : Int32)) Ls ∧ vp_in (x3 + (2 : Int32)) Ls ∧ D5_mended (xs (ix (x3 + (1 : Int32)))) (xs (ix (x3 + (2 : Int32)))) M126 (fun (r127 : Int32) (M128 : MM) => ((r125 = r127 → DL_c1237 xs Ls (DL_c18 xs Ls Q n) Q x3 M128) ∧ (¬ r125 = r127 → False))))) ∧ (¬ ((xs (ix x3)) &&& (63 : Int32)) = 31 → ((((xs (ix x3)) &&& (63 : Int32)) = 32 → vp_in (x3 + (1 : Int32)) Ls ∧ D4_pairs (xs (ix (x3 + (1 : Int32)))) M (fun (r129 : Int32) (M130 : MM) => vp_in (x3 + (1 : Int32)) Ls ∧ D5_pairs (xs (ix (x3 + (1 : Int32)))) M130 (fun (r131 : Int32) (M132 : MM) => ((r129 = r131 → DL_c1237 xs Ls (DL_c18 xs Ls Q n) Q x3 M132) ∧ (¬ r129 = r131 → False))))) ∧ (¬ ((xs (ix x3)) &&& (63 : Int32)) = 32 → ((((xs (ix x3)) &&& (63 : Int32)) = 33 → vp_in (x3 + (1 : Int32)) Ls ∧ D4_turrets (xs (ix (x3 + (1 : Int32)))) M (fun (r133 : Int32) (M134 : MM) => vp_in (x3 + (1 : Int32)) Ls ∧ D5_turrets (xs (ix (x3 + (1 : Int32)))) M134 (fun (r135 : Int32) (M136 : MM) => ((r133 = r135 → DL_c1237 xs Ls (DL_c18 xs Ls Q n) Q x3 M136) ∧ (¬ r133 = r135 → False))))) ∧ (¬ ((xs (ix x3)) &&& (63 : Int32)) = 33 → ((((xs (ix x3)) &&& (63 : Int32)) = 34 → vp_in (x3 + (1 : Int32)) Ls ∧ D4_row (xs (ix (x3 + (1 : Int32)))) M (fun (r137 : Int32) (M138 : MM) => vp_in (x3 + (1 : Int32)) Ls ∧ D5_row (xs (ix (x3 + (1 : Int32)))) M138 (fun (r139 : Int32) (M140 : MM) => ((r137 = r139 → DL_c1237 xs Ls (DL_c18 xs Ls Q n) Q x3 M140) ∧ (¬ r137 = r139 → False))))) ∧ (¬ ((xs (ix x3)) &&& (63 : Int32)) = 34 → ((((xs (ix x3)) &&& (63 : Int32)) = 35 → D4_judge M (fun (r141 : Int32) (M142 : MM) => D5_judge M142 (fun (r143 : Int32) (M144 : MM) => ((r141 = r143 → DL_c1237 xs Ls (DL_c18 xs Ls Q n) Q x3 M144) ∧ (¬ r141 = r143 → False))))) ∧ (¬ ((xs (ix x3)) &&& (63 : Int32)) = 35 → ((((xs (ix x3)) &&& (63 : Int32)) = 36 → D4_clear M (fun (r145 : Int32) (M146 : MM) => D5_clear M146 (fun (r147 : Int32) (M148 : MM) => ((r145 = r147 → DL_c1237 xs Ls (DL_c18 xs Ls Q n) Q x3 M148) ∧ (¬ r145 = r147 → False))))) ∧ (¬ ((xs (ix x3)) &&& (63 : Int32)) = 36 → ((((xs (ix x3)) &&& (63 : Int32)) = 37 → vp_in (x3 + (1 : Int32)) Ls ∧ vp_in (x3 + (2 : Int32)) Ls ∧ vp_in (x3 + (3 : Int32)) Ls ∧ D4_lots (xs (ix (x3 + (1 : Int32)))) (xs (ix (x3 + (2 : Int32)))) (xs (ix (x3 + (3 : Int32)))) M (fun (r149 : Int32) (M150 : MM) => vp_in (x3 + (1 : Int32)) Ls ∧ vp_in (x3 + (2 : Int32)) Ls ∧ vp_in (x3 + (3 : Int32)) Ls ∧ D5_lots (xs (ix (x3 + (1 : Int32)))) (xs (ix (x3 + (2 : Int32)))) (xs (ix (x3 + (3 : Int32)))) M150 (fun (r151 : Int32) (M152 : MM) => ((r149 = r151 → DL_c1237 xs Ls (DL_c18 xs Ls Q n) Q x3 M152) ∧ (¬ r149 = r151 → False))))) ∧ (¬ ((xs (ix x3)) &&& (63 : Int32)) = 37 → ((((xs (ix x3)) &&& (63 : Int32)) = 38 → D4_image M (fun (r153 : Int32) (M154 : MM) => D5_image M154 (fun (r155 : Int32) (M156 : MM) => ((r153 = r155 → DL_c1237 xs Ls (DL_c18 xs Ls Q n) Q x3 M156) ∧ (¬ r153 = r155 → False))))) ∧ (¬ ((xs (ix x3)) &&& (63 : Int32)) = 38 → ((((xs (ix x3)) &&& (63 : Int32)) = 39 → D4_restore M (fun (r157 : Int32) (M158 : MM) => D5_restore M158 (fun (r159 : Int32) (M160 : MM) => ((r157 = r159 → DL_c1237 xs Ls (DL_c18 xs Ls Q n) Q x3 M160) ∧ (¬ r157 = r159 → False))))) ∧ (¬ ((xs (ix x3)) &&& (63 : Int32)) = 39 → ((((xs (ix x3)) &&& (63 : Int32)) = 40 → vp_in (x3 + (1 : Int32)) Ls ∧ D4_count (xs (ix (x3 + (1 : Int32)))) M (fun (r161 : Int32) (M162 : MM) => vp_in (x3 + (1 : Int32)) Ls ∧ D5_count (xs (ix (x3 + (1 : Int32)))) M162 (fun (r163 : Int32) (M164 : MM) => ((r161 = r163 → DL_c1237 xs Ls (DL_c18 xs Ls Q n) Q x3 M164) ∧ (¬ r161 = r163 → False))))) ∧ (¬ ((xs (ix x3)) &&& (63 : Int32)) = 40 → DL_c1237 xs Ls (DL_c18 xs Ls Q n) Q x3 M))))))))))))))))))))))))))))))))))))))))))))))))))))))))))))))))))))))))))))))))))))
set_option maxHeartbeats 16000000 in
set_option maxRecDepth 100000 in
theorem sL_c1237 {G : GG} {b Ls : Nat} {xs : Nat → Int32} {K18 : Int32 → MM → Prop} {Q : MM → Prop} (hK18 : ∀ (x3 : Int32) (M : MM), K18 x3 M → AL G b xs Ls Q 18 [(0, .ref b), (1, .ref (gA G 0)), (2, .ref (gA G 62)), (3, .int x3)] [] M) : ∀ (x3 : Int32) (M : MM), DL_c1237 xs Ls K18 Q x3 M → AL G b xs Ls Q 1237 [(0, .ref b), (1, .ref (gA G 0)), (2, .ref (gA G 62)), (3, .int x3)] [] M := by
  intro x3 M h
  unfold DL_c1237 at h
  refine a_iinc (L' := [(3, .int _), (0, .ref _), (1, .ref _), (2, .ref _)]) dL_law_1237 3 rfl (show _ + Int32.ofInt (5 : Int) = _ + (5 : Int32) from rfl) (by decide) rfl ?_
  refine a_goto (tgt := 18) dL_law_1240 (by decide) ?_
  refine a_sub [1, 2, 3, 0] rfl ?_
  exact hK18 _ _ h
set_option maxHeartbeats 16000000 in
set_option maxRecDepth 100000 in
theorem sL_c18 {G : GG} {b Ls : Nat} {xs : Nat → Int32} {Q : MM → Prop} : ∀ (n : Nat) (x3 : Int32) (M : MM), DL_c18 xs Ls Q n x3 M → AL G b xs Ls Q 18 [(0, .ref b), (1, .ref (gA G 0)), (2, .ref (gA G 62)), (3, .int x3)] [] M := by
  intro n
  induction n with
  | zero => intro x3 M h; exact h.elim
  | succ n ih =>
    intro x3 M h
    unfold DL_c18 at h
    refine a_iload_n dL_law_18 3 rfl ?_
    refine a_aload_n dL_law_19 0 rfl ?_
    refine a_slen dL_law_20 ?_
    refine a_iconst (v := 5) dL_law_21 (by decide) ?_
    refine a_isub dL_law_22 ?_
    refine a_icmp_gt (tgt := 1243) dL_law_23 (by decide) (fun c => ?_) (fun c => ?_)
    · have h := h.1 c
      refine a_iconst (v := 1) dL_law_1243 (by decide) ?_
      exact a_lwret dL_law_1244
    · have h := h.2 c
      refine a_aload_n dL_law_26 0 rfl ?_
      refine a_iload_n dL_law_27 3 rfl ?_
      refine a_sld dL_law_28 h.1 ?_
      have h := h.2
      refine a_bipush (v := 63) dL_law_29 (by decide) ?_
      refine a_iand dL_law_31 ?_
      refine em_c h (fun c0 h => ?_) (fun c0 h => ?_)
      · refine a_tableIn (off := 180) (tgt := 212) dL_law_32 (by rw [c0]; decide) (by rw [c0]; decide) (by rw [c0]; rfl) (by decide) ?_
        refine a_aload_n dL_law_212 1 rfl ?_
        refine a_aload_n dL_law_213 0 rfl ?_
        refine a_iload_n dL_law_214 3 rfl ?_
        refine a_iconst (v := 1) dL_law_215 (by decide) ?_
        refine a_iadd dL_law_216 ?_
        refine a_sld dL_law_217 h.1 ?_
        have h := h.2
        refine a_callVi (n := 1) [.int _] (C := RX4) (ci := 2) (qc := (RX4, TX4, 12)) (fsF := fl2 G _) ob_0.1 (fun _ => en2 ob_0.2) rfl rfl dL_law_218 (s4_feed h) (gV tbl kM_RL_13_X4_feed kI_X4_feed kS_X4_feed kN_RX4 kC_X4_feed) rfl (by decide +kernel) ⟨Nat.le_of_ble_eq_true rfl, Nat.le_of_ble_eq_true rfl⟩ rfl rfl (Nat.le_of_ble_eq_true rfl) ⟨Nat.le_of_ble_eq_true rfl, Nat.le_of_ble_eq_true rfl⟩ (fun r M h => ?_)
        refine a_aload_n dL_law_221 2 rfl ?_
        refine a_aload_n dL_law_222 0 rfl ?_
        refine a_iload_n dL_law_223 3 rfl ?_
        refine a_iconst (v := 1) dL_law_224 (by decide) ?_
        refine a_iadd dL_law_225 ?_
        refine a_sld dL_law_226 h.1 ?_
        have h := h.2
        refine a_callVi (n := 1) [.int _] (C := RX5) (ci := 3) (qc := (RX5, TX5, 40)) (fsF := fl3 G _) ob_62.1 (fun _ => en3 ob_62.2) rfl rfl dL_law_227 (s5_feed h) (gV tbl kM_RL_17_X5_feed kI_X5_feed kS_X5_feed kN_RX5 kC_X5_feed) rfl (by decide +kernel) ⟨Nat.le_of_ble_eq_true rfl, Nat.le_of_ble_eq_true rfl⟩ rfl rfl (Nat.le_of_ble_eq_true rfl) ⟨Nat.le_of_ble_eq_true rfl, Nat.le_of_ble_eq_true rfl⟩ (fun r M h => ?_)
        refine a_icmp_eq (tgt := 1237) dL_law_230 (by decide) (fun c => ?_) (fun c => ?_)
        · have h := h.1 c
          refine a_sub [0, 1, 2, 3] rfl ?_
          exact sL_c1237 ih _ _ h
        · have h := h.2 c
          refine a_iconst (v := 0) dL_law_233 (by decide) ?_
          exact h.elim
      · refine em_c h (fun c1 h => ?_) (fun c1 h => ?_)
        · refine a_tableIn (off := 203) (tgt := 235) dL_law_32 (by rw [c1]; decide) (by rw [c1]; decide) (by rw [c1]; rfl) (by decide) ?_
          refine a_aload_n dL_law_235 1 rfl ?_
          refine a_callVi (n := 0) [] (C := RX4) (ci := 2) (qc := (RX4, TX4, 12)) (fsF := fl2 G _) ob_0.1 (fun _ => en2 ob_0.2) rfl rfl dL_law_236 (s4_beach h) (gV tbl kM_RL_18_X4_beach kI_X4_beach kS_X4_beach kN_RX4 kC_X4_beach) rfl (by decide +kernel) ⟨Nat.le_of_ble_eq_true rfl, Nat.le_of_ble_eq_true rfl⟩ rfl rfl (Nat.le_of_ble_eq_true rfl) ⟨Nat.le_of_ble_eq_true rfl, Nat.le_of_ble_eq_true rfl⟩ (fun r M h => ?_)
          refine a_aload_n dL_law_239 2 rfl ?_
          refine a_callVi (n := 0) [] (C := RX5) (ci := 3) (qc := (RX5, TX5, 40)) (fsF := fl3 G _) ob_62.1 (fun _ => en3 ob_62.2) rfl rfl dL_law_240 (s5_beach h) (gV tbl kM_RL_22_X5_beach kI_X5_beach kS_X5_beach kN_RX5 kC_X5_beach) rfl (by decide +kernel) ⟨Nat.le_of_ble_eq_true rfl, Nat.le_of_ble_eq_true rfl⟩ rfl rfl (Nat.le_of_ble_eq_true rfl) ⟨Nat.le_of_ble_eq_true rfl, Nat.le_of_ble_eq_true rfl⟩ (fun r M h => ?_)
          refine a_icmp_eq (tgt := 1237) dL_law_243 (by decide) (fun c => ?_) (fun c => ?_)
          · have h := h.1 c
            refine a_sub [0, 1, 2, 3] rfl ?_
            exact sL_c1237 ih _ _ h
          · have h := h.2 c
            refine a_iconst (v := 0) dL_law_246 (by decide) ?_
            exact h.elim
        · refine em_c h (fun c2 h => ?_) (fun c2 h => ?_)
          · refine a_tableIn (off := 216) (tgt := 248) dL_law_32 (by rw [c2]; decide) (by rw [c2]; decide) (by rw [c2]; rfl) (by decide) ?_
            refine a_aload_n dL_law_248 1 rfl ?_
            refine a_aload_n dL_law_249 0 rfl ?_
            refine a_iload_n dL_law_250 3 rfl ?_
            refine a_iconst (v := 1) dL_law_251 (by decide) ?_
            refine a_iadd dL_law_252 ?_
            refine a_sld dL_law_253 h.1 ?_
            have h := h.2
            refine a_aload_n dL_law_254 0 rfl ?_
            refine a_iload_n dL_law_255 3 rfl ?_
            refine a_iconst (v := 2) dL_law_256 (by decide) ?_
            refine a_iadd dL_law_257 ?_
            refine a_sld dL_law_258 h.1 ?_
            have h := h.2
            refine a_callVi (n := 2) [.int _, .int _] (C := RX4) (ci := 2) (qc := (RX4, TX4, 12)) (fsF := fl2 G _) ob_0.1 (fun _ => en2 ob_0.2) rfl rfl dL_law_259 (s4_workOf h) (gV tbl kM_RL_23_X4_workOf kI_X4_workOf kS_X4_workOf kN_RX4 kC_X4_workOf) rfl (by decide +kernel) ⟨Nat.le_of_ble_eq_true rfl, Nat.le_of_ble_eq_true rfl⟩ rfl rfl (Nat.le_of_ble_eq_true rfl) ⟨Nat.le_of_ble_eq_true rfl, Nat.le_of_ble_eq_true rfl⟩ (fun r M h => ?_)
            refine a_aload_n dL_law_262 2 rfl ?_
            refine a_aload_n dL_law_263 0 rfl ?_
            refine a_iload_n dL_law_264 3 rfl ?_
            refine a_iconst (v := 1) dL_law_265 (by decide) ?_
            refine a_iadd dL_law_266 ?_
            refine a_sld dL_law_267 h.1 ?_
            have h := h.2
            refine a_aload_n dL_law_268 0 rfl ?_
            refine a_iload_n dL_law_269 3 rfl ?_
            refine a_iconst (v := 2) dL_law_270 (by decide) ?_
            refine a_iadd dL_law_271 ?_
            refine a_sld dL_law_272 h.1 ?_
            have h := h.2
            refine a_callVi (n := 2) [.int _, .int _] (C := RX5) (ci := 3) (qc := (RX5, TX5, 40)) (fsF := fl3 G _) ob_62.1 (fun _ => en3 ob_62.2) rfl rfl dL_law_273 (s5_workOf h) (gV tbl kM_RL_27_X5_workOf kI_X5_workOf kS_X5_workOf kN_RX5 kC_X5_workOf) rfl (by decide +kernel) ⟨Nat.le_of_ble_eq_true rfl, Nat.le_of_ble_eq_true rfl⟩ rfl rfl (Nat.le_of_ble_eq_true rfl) ⟨Nat.le_of_ble_eq_true rfl, Nat.le_of_ble_eq_true rfl⟩ (fun r M h => ?_)
            refine a_icmp_eq (tgt := 1237) dL_law_276 (by decide) (fun c => ?_) (fun c => ?_)
            · have h := h.1 c
              refine a_sub [0, 1, 2, 3] rfl ?_
              exact sL_c1237 ih _ _ h
            · have h := h.2 c
              refine a_iconst (v := 0) dL_law_279 (by decide) ?_
              exact h.elim
          · refine em_c h (fun c3 h => ?_) (fun c3 h => ?_)
            · refine a_tableIn (off := 249) (tgt := 281) dL_law_32 (by rw [c3]; decide) (by rw [c3]; decide) (by rw [c3]; rfl) (by decide) ?_
              refine a_aload_n dL_law_281 1 rfl ?_
              refine a_aload_n dL_law_282 0 rfl ?_
              refine a_iload_n dL_law_283 3 rfl ?_
              refine a_iconst (v := 1) dL_law_284 (by decide) ?_
              refine a_iadd dL_law_285 ?_
              refine a_sld dL_law_286 h.1 ?_
              have h := h.2
              refine a_callVi (n := 1) [.int _] (C := RX4) (ci := 2) (qc := (RX4, TX4, 12)) (fsF := fl2 G _) ob_0.1 (fun _ => en2 ob_0.2) rfl rfl dL_law_287 (s4_at h) (gV tbl kM_RL_28_X4_at kI_X4_at kS_X4_at kN_RX4 kC_X4_at) rfl (by decide +kernel) ⟨Nat.le_of_ble_eq_true rfl, Nat.le_of_ble_eq_true rfl⟩ rfl rfl (Nat.le_of_ble_eq_true rfl) ⟨Nat.le_of_ble_eq_true rfl, Nat.le_of_ble_eq_true rfl⟩ (fun r M h => ?_)
              refine a_aload_n dL_law_290 2 rfl ?_
              refine a_aload_n dL_law_291 0 rfl ?_
              refine a_iload_n dL_law_292 3 rfl ?_
              refine a_iconst (v := 1) dL_law_293 (by decide) ?_
              refine a_iadd dL_law_294 ?_
              refine a_sld dL_law_295 h.1 ?_
              have h := h.2
              refine a_callVi (n := 1) [.int _] (C := RX5) (ci := 3) (qc := (RX5, TX5, 40)) (fsF := fl3 G _) ob_62.1 (fun _ => en3 ob_62.2) rfl rfl dL_law_296 (s5_at h) (gV tbl kM_RL_31_X5_at kI_X5_at kS_X5_at kN_RX5 kC_X5_at) rfl (by decide +kernel) ⟨Nat.le_of_ble_eq_true rfl, Nat.le_of_ble_eq_true rfl⟩ rfl rfl (Nat.le_of_ble_eq_true rfl) ⟨Nat.le_of_ble_eq_true rfl, Nat.le_of_ble_eq_true rfl⟩ (fun r M h => ?_)
              refine a_icmp_eq (tgt := 1237) dL_law_299 (by decide) (fun c => ?_) (fun c => ?_)
              · have h := h.1 c
                refine a_sub [0, 1, 2, 3] rfl ?_
                exact sL_c1237 ih _ _ h
              · have h := h.2 c
                refine a_iconst (v := 0) dL_law_302 (by decide) ?_
                exact h.elim
            · refine em_c h (fun c4 h => ?_) (fun c4 h => ?_)
              · refine a_tableIn (off := 272) (tgt := 304) dL_law_32 (by rw [c4]; decide) (by rw [c4]; decide) (by rw [c4]; rfl) (by decide) ?_
                refine a_aload_n dL_law_304 1 rfl ?_
                refine a_aload_n dL_law_305 0 rfl ?_
                refine a_iload_n dL_law_306 3 rfl ?_
                refine a_iconst (v := 1) dL_law_307 (by decide) ?_
                refine a_iadd dL_law_308 ?_
                refine a_sld dL_law_309 h.1 ?_
                have h := h.2
                refine a_aload_n dL_law_310 0 rfl ?_
                refine a_iload_n dL_law_311 3 rfl ?_
                refine a_iconst (v := 2) dL_law_312 (by decide) ?_
                refine a_iadd dL_law_313 ?_
                refine a_sld dL_law_314 h.1 ?_
                have h := h.2
                refine a_aload_n dL_law_315 0 rfl ?_
                refine a_iload_n dL_law_316 3 rfl ?_
                refine a_iconst (v := 3) dL_law_317 (by decide) ?_
                refine a_iadd dL_law_318 ?_
                refine a_sld dL_law_319 h.1 ?_
                have h := h.2
                refine a_callVi (n := 3) [.int _, .int _, .int _] (C := RX4) (ci := 2) (qc := (RX4, TX4, 12)) (fsF := fl2 G _) ob_0.1 (fun _ => en2 ob_0.2) rfl rfl dL_law_320 (s4_work h) (gV tbl kM_RL_32_X4_work kI_X4_work kS_X4_work kN_RX4 kC_X4_work) rfl (by decide +kernel) ⟨Nat.le_of_ble_eq_true rfl, Nat.le_of_ble_eq_true rfl⟩ rfl rfl (Nat.le_of_ble_eq_true rfl) ⟨Nat.le_of_ble_eq_true rfl, Nat.le_of_ble_eq_true rfl⟩ (fun r M h => ?_)
                refine a_aload_n dL_law_323 2 rfl ?_
                refine a_aload_n dL_law_324 0 rfl ?_
                refine a_iload_n dL_law_325 3 rfl ?_
                refine a_iconst (v := 1) dL_law_326 (by decide) ?_
                refine a_iadd dL_law_327 ?_
                refine a_sld dL_law_328 h.1 ?_
                have h := h.2
                refine a_aload_n dL_law_329 0 rfl ?_
                refine a_iload_n dL_law_330 3 rfl ?_
                refine a_iconst (v := 2) dL_law_331 (by decide) ?_
                refine a_iadd dL_law_332 ?_
                refine a_sld dL_law_333 h.1 ?_
                have h := h.2
                refine a_aload_n dL_law_334 0 rfl ?_
                refine a_iload_n dL_law_335 3 rfl ?_
                refine a_iconst (v := 3) dL_law_336 (by decide) ?_
                refine a_iadd dL_law_337 ?_
                refine a_sld dL_law_338 h.1 ?_
                have h := h.2
                refine a_callVi (n := 3) [.int _, .int _, .int _] (C := RX5) (ci := 3) (qc := (RX5, TX5, 40)) (fsF := fl3 G _) ob_62.1 (fun _ => en3 ob_62.2) rfl rfl dL_law_339 (s5_work h) (gV tbl kM_RL_36_X5_work kI_X5_work kS_X5_work kN_RX5 kC_X5_work) rfl (by decide +kernel) ⟨Nat.le_of_ble_eq_true rfl, Nat.le_of_ble_eq_true rfl⟩ rfl rfl (Nat.le_of_ble_eq_true rfl) ⟨Nat.le_of_ble_eq_true rfl, Nat.le_of_ble_eq_true rfl⟩ (fun r M h => ?_)
                refine a_icmp_eq (tgt := 1237) dL_law_342 (by decide) (fun c => ?_) (fun c => ?_)
                · have h := h.1 c
                  refine a_sub [0, 1, 2, 3] rfl ?_
                  exact sL_c1237 ih _ _ h
                · have h := h.2 c
                  refine a_iconst (v := 0) dL_law_345 (by decide) ?_
                  exact h.elim
              · refine em_c h (fun c5 h => ?_) (fun c5 h => ?_)
                · refine a_tableIn (off := 315) (tgt := 347) dL_law_32 (by rw [c5]; decide) (by rw [c5]; decide) (by rw [c5]; rfl) (by decide) ?_
                  refine a_aload_n dL_law_347 1 rfl ?_
                  refine a_aload_n dL_law_348 0 rfl ?_
                  refine a_iload_n dL_law_349 3 rfl ?_
                  refine a_iconst (v := 1) dL_law_350 (by decide) ?_
                  refine a_iadd dL_law_351 ?_
                  refine a_sld dL_law_352 h.1 ?_
                  have h := h.2
                  refine a_callVi (n := 1) [.int _] (C := RX4) (ci := 2) (qc := (RX4, TX4, 12)) (fsF := fl2 G _) ob_0.1 (fun _ => en2 ob_0.2) rfl rfl dL_law_353 (s4_razes h) (gV tbl kM_RL_37_X4_razes kI_X4_razes kS_X4_razes kN_RX4 kC_X4_razes) rfl (by decide +kernel) ⟨Nat.le_of_ble_eq_true rfl, Nat.le_of_ble_eq_true rfl⟩ rfl rfl (Nat.le_of_ble_eq_true rfl) ⟨Nat.le_of_ble_eq_true rfl, Nat.le_of_ble_eq_true rfl⟩ (fun r M h => ?_)
                  refine a_aload_n dL_law_356 2 rfl ?_
                  refine a_aload_n dL_law_357 0 rfl ?_
                  refine a_iload_n dL_law_358 3 rfl ?_
                  refine a_iconst (v := 1) dL_law_359 (by decide) ?_
                  refine a_iadd dL_law_360 ?_
                  refine a_sld dL_law_361 h.1 ?_
                  have h := h.2
                  refine a_callVi (n := 1) [.int _] (C := RX5) (ci := 3) (qc := (RX5, TX5, 40)) (fsF := fl3 G _) ob_62.1 (fun _ => en3 ob_62.2) rfl rfl dL_law_362 (s5_razes h) (gV tbl kM_RL_40_X5_razes kI_X5_razes kS_X5_razes kN_RX5 kC_X5_razes) rfl (by decide +kernel) ⟨Nat.le_of_ble_eq_true rfl, Nat.le_of_ble_eq_true rfl⟩ rfl rfl (Nat.le_of_ble_eq_true rfl) ⟨Nat.le_of_ble_eq_true rfl, Nat.le_of_ble_eq_true rfl⟩ (fun r M h => ?_)
                  refine a_icmp_eq (tgt := 1237) dL_law_365 (by decide) (fun c => ?_) (fun c => ?_)
                  · have h := h.1 c
                    refine a_sub [0, 1, 2, 3] rfl ?_
                    exact sL_c1237 ih _ _ h
                  · have h := h.2 c
                    refine a_iconst (v := 0) dL_law_368 (by decide) ?_
                    exact h.elim
                · refine em_c h (fun c6 h => ?_) (fun c6 h => ?_)
                  · refine a_tableIn (off := 338) (tgt := 370) dL_law_32 (by rw [c6]; decide) (by rw [c6]; decide) (by rw [c6]; rfl) (by decide) ?_
                    refine a_aload_n dL_law_370 1 rfl ?_
                    refine a_aload_n dL_law_371 0 rfl ?_
                    refine a_iload_n dL_law_372 3 rfl ?_
                    refine a_iconst (v := 1) dL_law_373 (by decide) ?_
                    refine a_iadd dL_law_374 ?_
                    refine a_sld dL_law_375 h.1 ?_
                    have h := h.2
                    refine a_callVi (n := 1) [.int _] (C := RX4) (ci := 2) (qc := (RX4, TX4, 12)) (fsF := fl2 G _) ob_0.1 (fun _ => en2 ob_0.2) rfl rfl dL_law_376 (s4_fixes h) (gV tbl kM_RL_41_X4_fixes kI_X4_fixes kS_X4_fixes kN_RX4 kC_X4_fixes) rfl (by decide +kernel) ⟨Nat.le_of_ble_eq_true rfl, Nat.le_of_ble_eq_true rfl⟩ rfl rfl (Nat.le_of_ble_eq_true rfl) ⟨Nat.le_of_ble_eq_true rfl, Nat.le_of_ble_eq_true rfl⟩ (fun r M h => ?_)
                    refine a_aload_n dL_law_379 2 rfl ?_
                    refine a_aload_n dL_law_380 0 rfl ?_
                    refine a_iload_n dL_law_381 3 rfl ?_
                    refine a_iconst (v := 1) dL_law_382 (by decide) ?_
                    refine a_iadd dL_law_383 ?_
                    refine a_sld dL_law_384 h.1 ?_
                    have h := h.2
                    refine a_callVi (n := 1) [.int _] (C := RX5) (ci := 3) (qc := (RX5, TX5, 40)) (fsF := fl3 G _) ob_62.1 (fun _ => en3 ob_62.2) rfl rfl dL_law_385 (s5_fixes h) (gV tbl kM_RL_44_X5_fixes kI_X5_fixes kS_X5_fixes kN_RX5 kC_X5_fixes) rfl (by decide +kernel) ⟨Nat.le_of_ble_eq_true rfl, Nat.le_of_ble_eq_true rfl⟩ rfl rfl (Nat.le_of_ble_eq_true rfl) ⟨Nat.le_of_ble_eq_true rfl, Nat.le_of_ble_eq_true rfl⟩ (fun r M h => ?_)
                    refine a_icmp_eq (tgt := 1237) dL_law_388 (by decide) (fun c => ?_) (fun c => ?_)
                    · have h := h.1 c
                      refine a_sub [0, 1, 2, 3] rfl ?_
                      exact sL_c1237 ih _ _ h
                    · have h := h.2 c
                      refine a_iconst (v := 0) dL_law_391 (by decide) ?_
                      exact h.elim
                  · refine em_c h (fun c7 h => ?_) (fun c7 h => ?_)
                    · refine a_tableIn (off := 361) (tgt := 393) dL_law_32 (by rw [c7]; decide) (by rw [c7]; decide) (by rw [c7]; rfl) (by decide) ?_
                      refine a_aload_n dL_law_393 1 rfl ?_
                      refine a_callVi (n := 0) [] (C := RX4) (ci := 2) (qc := (RX4, TX4, 12)) (fsF := fl2 G _) ob_0.1 (fun _ => en2 ob_0.2) rfl rfl dL_law_394 (s4_pays h) (gV tbl kM_RL_45_X4_pays kI_X4_pays kS_X4_pays kN_RX4 kC_X4_pays) rfl (by decide +kernel) ⟨Nat.le_of_ble_eq_true rfl, Nat.le_of_ble_eq_true rfl⟩ rfl rfl (Nat.le_of_ble_eq_true rfl) ⟨Nat.le_of_ble_eq_true rfl, Nat.le_of_ble_eq_true rfl⟩ (fun r M h => ?_)
                      refine a_aload_n dL_law_397 2 rfl ?_
                      refine a_callVi (n := 0) [] (C := RX5) (ci := 3) (qc := (RX5, TX5, 40)) (fsF := fl3 G _) ob_62.1 (fun _ => en3 ob_62.2) rfl rfl dL_law_398 (s5_pays h) (gV tbl kM_RL_48_X5_pays kI_X5_pays kS_X5_pays kN_RX5 kC_X5_pays) rfl (by decide +kernel) ⟨Nat.le_of_ble_eq_true rfl, Nat.le_of_ble_eq_true rfl⟩ rfl rfl (Nat.le_of_ble_eq_true rfl) ⟨Nat.le_of_ble_eq_true rfl, Nat.le_of_ble_eq_true rfl⟩ (fun r M h => ?_)
                      refine a_icmp_eq (tgt := 1237) dL_law_401 (by decide) (fun c => ?_) (fun c => ?_)
                      · have h := h.1 c
                        refine a_sub [0, 1, 2, 3] rfl ?_
                        exact sL_c1237 ih _ _ h
                      · have h := h.2 c
                        refine a_iconst (v := 0) dL_law_404 (by decide) ?_
                        exact h.elim
                    · refine em_c h (fun c8 h => ?_) (fun c8 h => ?_)
                      · refine a_tableIn (off := 374) (tgt := 406) dL_law_32 (by rw [c8]; decide) (by rw [c8]; decide) (by rw [c8]; rfl) (by decide) ?_
                        refine a_aload_n dL_law_406 1 rfl ?_
                        refine a_aload_n dL_law_407 0 rfl ?_
                        refine a_iload_n dL_law_408 3 rfl ?_
                        refine a_iconst (v := 1) dL_law_409 (by decide) ?_
                        refine a_iadd dL_law_410 ?_
                        refine a_sld dL_law_411 h.1 ?_
                        have h := h.2
                        refine a_callVi (n := 1) [.int _] (C := RX4) (ci := 2) (qc := (RX4, TX4, 12)) (fsF := fl2 G _) ob_0.1 (fun _ => en2 ob_0.2) rfl rfl dL_law_412 (s4_hours h) (gV tbl kM_RL_49_X4_hours kI_X4_hours kS_X4_hours kN_RX4 kC_X4_hours) rfl (by decide +kernel) ⟨Nat.le_of_ble_eq_true rfl, Nat.le_of_ble_eq_true rfl⟩ rfl rfl (Nat.le_of_ble_eq_true rfl) ⟨Nat.le_of_ble_eq_true rfl, Nat.le_of_ble_eq_true rfl⟩ (fun r M h => ?_)
                        refine a_aload_n dL_law_415 2 rfl ?_
                        refine a_aload_n dL_law_416 0 rfl ?_
                        refine a_iload_n dL_law_417 3 rfl ?_
                        refine a_iconst (v := 1) dL_law_418 (by decide) ?_
                        refine a_iadd dL_law_419 ?_
                        refine a_sld dL_law_420 h.1 ?_
                        have h := h.2
                        refine a_callVi (n := 1) [.int _] (C := RX5) (ci := 3) (qc := (RX5, TX5, 40)) (fsF := fl3 G _) ob_62.1 (fun _ => en3 ob_62.2) rfl rfl dL_law_421 (s5_hours h) (gV tbl kM_RL_52_X5_hours kI_X5_hours kS_X5_hours kN_RX5 kC_X5_hours) rfl (by decide +kernel) ⟨Nat.le_of_ble_eq_true rfl, Nat.le_of_ble_eq_true rfl⟩ rfl rfl (Nat.le_of_ble_eq_true rfl) ⟨Nat.le_of_ble_eq_true rfl, Nat.le_of_ble_eq_true rfl⟩ (fun r M h => ?_)
                        refine a_icmp_eq (tgt := 1237) dL_law_424 (by decide) (fun c => ?_) (fun c => ?_)
                        · have h := h.1 c
                          refine a_sub [0, 1, 2, 3] rfl ?_
                          exact sL_c1237 ih _ _ h
                        · have h := h.2 c
                          refine a_iconst (v := 0) dL_law_427 (by decide) ?_
                          exact h.elim
                      · refine em_c h (fun c9 h => ?_) (fun c9 h => ?_)
                        · refine a_tableIn (off := 397) (tgt := 429) dL_law_32 (by rw [c9]; decide) (by rw [c9]; decide) (by rw [c9]; rfl) (by decide) ?_
                          refine a_aload_n dL_law_429 1 rfl ?_
                          refine a_callVi (n := 0) [] (C := RX4) (ci := 2) (qc := (RX4, TX4, 12)) (fsF := fl2 G _) ob_0.1 (fun _ => en2 ob_0.2) rfl rfl dL_law_430 (s4_back h) (gV tbl kM_RL_53_X4_back kI_X4_back kS_X4_back kN_RX4 kC_X4_back) rfl (by decide +kernel) ⟨Nat.le_of_ble_eq_true rfl, Nat.le_of_ble_eq_true rfl⟩ rfl rfl (Nat.le_of_ble_eq_true rfl) ⟨Nat.le_of_ble_eq_true rfl, Nat.le_of_ble_eq_true rfl⟩ (fun r M h => ?_)
                          refine a_aload_n dL_law_433 2 rfl ?_
                          refine a_callVi (n := 0) [] (C := RX5) (ci := 3) (qc := (RX5, TX5, 40)) (fsF := fl3 G _) ob_62.1 (fun _ => en3 ob_62.2) rfl rfl dL_law_434 (s5_back h) (gV tbl kM_RL_56_X5_back kI_X5_back kS_X5_back kN_RX5 kC_X5_back) rfl (by decide +kernel) ⟨Nat.le_of_ble_eq_true rfl, Nat.le_of_ble_eq_true rfl⟩ rfl rfl (Nat.le_of_ble_eq_true rfl) ⟨Nat.le_of_ble_eq_true rfl, Nat.le_of_ble_eq_true rfl⟩ (fun r M h => ?_)
                          refine a_icmp_eq (tgt := 1237) dL_law_437 (by decide) (fun c => ?_) (fun c => ?_)
                          · have h := h.1 c
                            refine a_sub [0, 1, 2, 3] rfl ?_
                            exact sL_c1237 ih _ _ h
                          · have h := h.2 c
                            refine a_iconst (v := 0) dL_law_440 (by decide) ?_
                            exact h.elim
                        · refine em_c h (fun c10 h => ?_) (fun c10 h => ?_)
                          · refine a_tableIn (off := 410) (tgt := 442) dL_law_32 (by rw [c10]; decide) (by rw [c10]; decide) (by rw [c10]; rfl) (by decide) ?_
                            refine a_aload_n dL_law_442 1 rfl ?_
                            refine a_aload_n dL_law_443 0 rfl ?_
                            refine a_iload_n dL_law_444 3 rfl ?_
                            refine a_iconst (v := 1) dL_law_445 (by decide) ?_
                            refine a_iadd dL_law_446 ?_
                            refine a_sld dL_law_447 h.1 ?_
                            have h := h.2
                            refine a_callVi (n := 1) [.int _] (C := RX4) (ci := 2) (qc := (RX4, TX4, 12)) (fsF := fl2 G _) ob_0.1 (fun _ => en2 ob_0.2) rfl rfl dL_law_448 (s4_level h) (gV tbl kM_RL_57_X4_level kI_X4_level kS_X4_level kN_RX4 kC_X4_level) rfl (by decide +kernel) ⟨Nat.le_of_ble_eq_true rfl, Nat.le_of_ble_eq_true rfl⟩ rfl rfl (Nat.le_of_ble_eq_true rfl) ⟨Nat.le_of_ble_eq_true rfl, Nat.le_of_ble_eq_true rfl⟩ (fun r M h => ?_)
                            refine a_aload_n dL_law_451 2 rfl ?_
                            refine a_aload_n dL_law_452 0 rfl ?_
                            refine a_iload_n dL_law_453 3 rfl ?_
                            refine a_iconst (v := 1) dL_law_454 (by decide) ?_
                            refine a_iadd dL_law_455 ?_
                            refine a_sld dL_law_456 h.1 ?_
                            have h := h.2
                            refine a_callVi (n := 1) [.int _] (C := RX5) (ci := 3) (qc := (RX5, TX5, 40)) (fsF := fl3 G _) ob_62.1 (fun _ => en3 ob_62.2) rfl rfl dL_law_457 (s5_level h) (gV tbl kM_RL_60_X5_level kI_X5_level kS_X5_level kN_RX5 kC_X5_level) rfl (by decide +kernel) ⟨Nat.le_of_ble_eq_true rfl, Nat.le_of_ble_eq_true rfl⟩ rfl rfl (Nat.le_of_ble_eq_true rfl) ⟨Nat.le_of_ble_eq_true rfl, Nat.le_of_ble_eq_true rfl⟩ (fun r M h => ?_)
                            refine a_icmp_eq (tgt := 1237) dL_law_460 (by decide) (fun c => ?_) (fun c => ?_)
                            · have h := h.1 c
                              refine a_sub [0, 1, 2, 3] rfl ?_
                              exact sL_c1237 ih _ _ h
                            · have h := h.2 c
                              refine a_iconst (v := 0) dL_law_463 (by decide) ?_
                              exact h.elim
                          · refine em_c h (fun c11 h => ?_) (fun c11 h => ?_)
                            · refine a_tableIn (off := 433) (tgt := 465) dL_law_32 (by rw [c11]; decide) (by rw [c11]; decide) (by rw [c11]; rfl) (by decide) ?_
                              refine a_aload_n dL_law_465 1 rfl ?_
                              refine a_aload_n dL_law_466 0 rfl ?_
                              refine a_iload_n dL_law_467 3 rfl ?_
                              refine a_iconst (v := 1) dL_law_468 (by decide) ?_
                              refine a_iadd dL_law_469 ?_
                              refine a_sld dL_law_470 h.1 ?_
                              have h := h.2
                              refine a_callVi (n := 1) [.int _] (C := RX4) (ci := 2) (qc := (RX4, TX4, 12)) (fsF := fl2 G _) ob_0.1 (fun _ => en2 ob_0.2) rfl rfl dL_law_471 (s4_wet h) (gV tbl kM_RL_61_X4_wet kI_X4_wet kS_X4_wet kN_RX4 kC_X4_wet) rfl (by decide +kernel) ⟨Nat.le_of_ble_eq_true rfl, Nat.le_of_ble_eq_true rfl⟩ rfl rfl (Nat.le_of_ble_eq_true rfl) ⟨Nat.le_of_ble_eq_true rfl, Nat.le_of_ble_eq_true rfl⟩ (fun r M h => ?_)
                              refine a_aload_n dL_law_474 2 rfl ?_
                              refine a_aload_n dL_law_475 0 rfl ?_
                              refine a_iload_n dL_law_476 3 rfl ?_
                              refine a_iconst (v := 1) dL_law_477 (by decide) ?_
                              refine a_iadd dL_law_478 ?_
                              refine a_sld dL_law_479 h.1 ?_
                              have h := h.2
                              refine a_callVi (n := 1) [.int _] (C := RX5) (ci := 3) (qc := (RX5, TX5, 40)) (fsF := fl3 G _) ob_62.1 (fun _ => en3 ob_62.2) rfl rfl dL_law_480 (s5_wet h) (gV tbl kM_RL_64_X5_wet kI_X5_wet kS_X5_wet kN_RX5 kC_X5_wet) rfl (by decide +kernel) ⟨Nat.le_of_ble_eq_true rfl, Nat.le_of_ble_eq_true rfl⟩ rfl rfl (Nat.le_of_ble_eq_true rfl) ⟨Nat.le_of_ble_eq_true rfl, Nat.le_of_ble_eq_true rfl⟩ (fun r M h => ?_)
                              refine a_icmp_eq (tgt := 1237) dL_law_483 (by decide) (fun c => ?_) (fun c => ?_)
                              · have h := h.1 c
                                refine a_sub [0, 1, 2, 3] rfl ?_
                                exact sL_c1237 ih _ _ h
                              · have h := h.2 c
                                refine a_iconst (v := 0) dL_law_486 (by decide) ?_
                                exact h.elim
                            · refine em_c h (fun c12 h => ?_) (fun c12 h => ?_)
                              · refine a_tableIn (off := 456) (tgt := 488) dL_law_32 (by rw [c12]; decide) (by rw [c12]; decide) (by rw [c12]; rfl) (by decide) ?_
                                refine a_aload_n dL_law_488 1 rfl ?_
                                refine a_aload_n dL_law_489 0 rfl ?_
                                refine a_iload_n dL_law_490 3 rfl ?_
                                refine a_iconst (v := 1) dL_law_491 (by decide) ?_
                                refine a_iadd dL_law_492 ?_
                                refine a_sld dL_law_493 h.1 ?_
                                have h := h.2
                                refine a_aload_n dL_law_494 0 rfl ?_
                                refine a_iload_n dL_law_495 3 rfl ?_
                                refine a_iconst (v := 2) dL_law_496 (by decide) ?_
                                refine a_iadd dL_law_497 ?_
                                refine a_sld dL_law_498 h.1 ?_
                                have h := h.2
                                refine a_callVi (n := 2) [.int _, .int _] (C := RX4) (ci := 2) (qc := (RX4, TX4, 12)) (fsF := fl2 G _) ob_0.1 (fun _ => en2 ob_0.2) rfl rfl dL_law_499 (s4_then h) (gV tbl kM_RL_65_X4_then kI_X4_then kS_X4_then kN_RX4 kC_X4_then) rfl (by decide +kernel) ⟨Nat.le_of_ble_eq_true rfl, Nat.le_of_ble_eq_true rfl⟩ rfl rfl (Nat.le_of_ble_eq_true rfl) ⟨Nat.le_of_ble_eq_true rfl, Nat.le_of_ble_eq_true rfl⟩ (fun r M h => ?_)
                                refine a_aload_n dL_law_502 2 rfl ?_
                                refine a_aload_n dL_law_503 0 rfl ?_
                                refine a_iload_n dL_law_504 3 rfl ?_
                                refine a_iconst (v := 1) dL_law_505 (by decide) ?_
                                refine a_iadd dL_law_506 ?_
                                refine a_sld dL_law_507 h.1 ?_
                                have h := h.2
                                refine a_aload_n dL_law_508 0 rfl ?_
                                refine a_iload_n dL_law_509 3 rfl ?_
                                refine a_iconst (v := 2) dL_law_510 (by decide) ?_
                                refine a_iadd dL_law_511 ?_
                                refine a_sld dL_law_512 h.1 ?_
                                have h := h.2
                                refine a_callVi (n := 2) [.int _, .int _] (C := RX5) (ci := 3) (qc := (RX5, TX5, 40)) (fsF := fl3 G _) ob_62.1 (fun _ => en3 ob_62.2) rfl rfl dL_law_513 (s5_then h) (gV tbl kM_RL_68_X5_then kI_X5_then kS_X5_then kN_RX5 kC_X5_then) rfl (by decide +kernel) ⟨Nat.le_of_ble_eq_true rfl, Nat.le_of_ble_eq_true rfl⟩ rfl rfl (Nat.le_of_ble_eq_true rfl) ⟨Nat.le_of_ble_eq_true rfl, Nat.le_of_ble_eq_true rfl⟩ (fun r M h => ?_)
                                refine a_icmp_eq (tgt := 1237) dL_law_516 (by decide) (fun c => ?_) (fun c => ?_)
                                · have h := h.1 c
                                  refine a_sub [0, 1, 2, 3] rfl ?_
                                  exact sL_c1237 ih _ _ h
                                · have h := h.2 c
                                  refine a_iconst (v := 0) dL_law_519 (by decide) ?_
                                  exact h.elim
                              · refine em_c h (fun c13 h => ?_) (fun c13 h => ?_)
                                · refine a_tableIn (off := 489) (tgt := 521) dL_law_32 (by rw [c13]; decide) (by rw [c13]; decide) (by rw [c13]; rfl) (by decide) ?_
                                  refine a_aload_n dL_law_521 1 rfl ?_
                                  refine a_aload_n dL_law_522 0 rfl ?_
                                  refine a_iload_n dL_law_523 3 rfl ?_
                                  refine a_iconst (v := 1) dL_law_524 (by decide) ?_
                                  refine a_iadd dL_law_525 ?_
                                  refine a_sld dL_law_526 h.1 ?_
                                  have h := h.2
                                  refine a_callVi (n := 1) [.int _] (C := RX4) (ci := 2) (qc := (RX4, TX4, 12)) (fsF := fl2 G _) ob_0.1 (fun _ => en2 ob_0.2) rfl rfl dL_law_527 (s4_floods h) (gV tbl kM_RL_69_X4_floods kI_X4_floods kS_X4_floods kN_RX4 kC_X4_floods) rfl (by decide +kernel) ⟨Nat.le_of_ble_eq_true rfl, Nat.le_of_ble_eq_true rfl⟩ rfl rfl (Nat.le_of_ble_eq_true rfl) ⟨Nat.le_of_ble_eq_true rfl, Nat.le_of_ble_eq_true rfl⟩ (fun r M h => ?_)
                                  refine a_aload_n dL_law_530 2 rfl ?_
                                  refine a_aload_n dL_law_531 0 rfl ?_
                                  refine a_iload_n dL_law_532 3 rfl ?_
                                  refine a_iconst (v := 1) dL_law_533 (by decide) ?_
                                  refine a_iadd dL_law_534 ?_
                                  refine a_sld dL_law_535 h.1 ?_
                                  have h := h.2
                                  refine a_callVi (n := 1) [.int _] (C := RX5) (ci := 3) (qc := (RX5, TX5, 40)) (fsF := fl3 G _) ob_62.1 (fun _ => en3 ob_62.2) rfl rfl dL_law_536 (s5_floods h) (gV tbl kM_RL_72_X5_floods kI_X5_floods kS_X5_floods kN_RX5 kC_X5_floods) rfl (by decide +kernel) ⟨Nat.le_of_ble_eq_true rfl, Nat.le_of_ble_eq_true rfl⟩ rfl rfl (Nat.le_of_ble_eq_true rfl) ⟨Nat.le_of_ble_eq_true rfl, Nat.le_of_ble_eq_true rfl⟩ (fun r M h => ?_)
                                  refine a_icmp_eq (tgt := 1237) dL_law_539 (by decide) (fun c => ?_) (fun c => ?_)
                                  · have h := h.1 c
                                    refine a_sub [0, 1, 2, 3] rfl ?_
                                    exact sL_c1237 ih _ _ h
                                  · have h := h.2 c
                                    refine a_iconst (v := 0) dL_law_542 (by decide) ?_
                                    exact h.elim
                                · refine em_c h (fun c14 h => ?_) (fun c14 h => ?_)
                                  · refine a_tableIn (off := 512) (tgt := 544) dL_law_32 (by rw [c14]; decide) (by rw [c14]; decide) (by rw [c14]; rfl) (by decide) ?_
                                    refine a_aload_n dL_law_544 1 rfl ?_
                                    refine a_aload_n dL_law_545 0 rfl ?_
                                    refine a_iload_n dL_law_546 3 rfl ?_
                                    refine a_iconst (v := 1) dL_law_547 (by decide) ?_
                                    refine a_iadd dL_law_548 ?_
                                    refine a_sld dL_law_549 h.1 ?_
                                    have h := h.2
                                    refine a_callVi (n := 1) [.int _] (C := RX4) (ci := 2) (qc := (RX4, TX4, 12)) (fsF := fl2 G _) ob_0.1 (fun _ => en2 ob_0.2) rfl rfl dL_law_550 (s4_dry h) (gV tbl kM_RL_73_X4_dry kI_X4_dry kS_X4_dry kN_RX4 kC_X4_dry) rfl (by decide +kernel) ⟨Nat.le_of_ble_eq_true rfl, Nat.le_of_ble_eq_true rfl⟩ rfl rfl (Nat.le_of_ble_eq_true rfl) ⟨Nat.le_of_ble_eq_true rfl, Nat.le_of_ble_eq_true rfl⟩ (fun r M h => ?_)
                                    refine a_aload_n dL_law_553 2 rfl ?_
                                    refine a_aload_n dL_law_554 0 rfl ?_
                                    refine a_iload_n dL_law_555 3 rfl ?_
                                    refine a_iconst (v := 1) dL_law_556 (by decide) ?_
                                    refine a_iadd dL_law_557 ?_
                                    refine a_sld dL_law_558 h.1 ?_
                                    have h := h.2
                                    refine a_callVi (n := 1) [.int _] (C := RX5) (ci := 3) (qc := (RX5, TX5, 40)) (fsF := fl3 G _) ob_62.1 (fun _ => en3 ob_62.2) rfl rfl dL_law_559 (s5_dry h) (gV tbl kM_RL_76_X5_dry kI_X5_dry kS_X5_dry kN_RX5 kC_X5_dry) rfl (by decide +kernel) ⟨Nat.le_of_ble_eq_true rfl, Nat.le_of_ble_eq_true rfl⟩ rfl rfl (Nat.le_of_ble_eq_true rfl) ⟨Nat.le_of_ble_eq_true rfl, Nat.le_of_ble_eq_true rfl⟩ (fun r M h => ?_)
                                    refine a_icmp_eq (tgt := 1237) dL_law_562 (by decide) (fun c => ?_) (fun c => ?_)
                                    · have h := h.1 c
                                      refine a_sub [0, 1, 2, 3] rfl ?_
                                      exact sL_c1237 ih _ _ h
                                    · have h := h.2 c
                                      refine a_iconst (v := 0) dL_law_565 (by decide) ?_
                                      exact h.elim
                                  · refine em_c h (fun c15 h => ?_) (fun c15 h => ?_)
                                    · refine a_tableIn (off := 535) (tgt := 567) dL_law_32 (by rw [c15]; decide) (by rw [c15]; decide) (by rw [c15]; rfl) (by decide) ?_
                                      refine a_aload_n dL_law_567 1 rfl ?_
                                      refine a_aload_n dL_law_568 0 rfl ?_
                                      refine a_iload_n dL_law_569 3 rfl ?_
                                      refine a_iconst (v := 1) dL_law_570 (by decide) ?_
                                      refine a_iadd dL_law_571 ?_
                                      refine a_sld dL_law_572 h.1 ?_
                                      have h := h.2
                                      refine a_callVi (n := 1) [.int _] (C := RX4) (ci := 2) (qc := (RX4, TX4, 12)) (fsF := fl2 G _) ob_0.1 (fun _ => en2 ob_0.2) rfl rfl dL_law_573 (s4_driest h) (gV tbl kM_RL_77_X4_driest kI_X4_driest kS_X4_driest kN_RX4 kC_X4_driest) rfl (by decide +kernel) ⟨Nat.le_of_ble_eq_true rfl, Nat.le_of_ble_eq_true rfl⟩ rfl rfl (Nat.le_of_ble_eq_true rfl) ⟨Nat.le_of_ble_eq_true rfl, Nat.le_of_ble_eq_true rfl⟩ (fun r M h => ?_)
                                      refine a_aload_n dL_law_576 2 rfl ?_
                                      refine a_aload_n dL_law_577 0 rfl ?_
                                      refine a_iload_n dL_law_578 3 rfl ?_
                                      refine a_iconst (v := 1) dL_law_579 (by decide) ?_
                                      refine a_iadd dL_law_580 ?_
                                      refine a_sld dL_law_581 h.1 ?_
                                      have h := h.2
                                      refine a_callVi (n := 1) [.int _] (C := RX5) (ci := 3) (qc := (RX5, TX5, 40)) (fsF := fl3 G _) ob_62.1 (fun _ => en3 ob_62.2) rfl rfl dL_law_582 (s5_driest h) (gV tbl kM_RL_80_X5_driest kI_X5_driest kS_X5_driest kN_RX5 kC_X5_driest) rfl (by decide +kernel) ⟨Nat.le_of_ble_eq_true rfl, Nat.le_of_ble_eq_true rfl⟩ rfl rfl (Nat.le_of_ble_eq_true rfl) ⟨Nat.le_of_ble_eq_true rfl, Nat.le_of_ble_eq_true rfl⟩ (fun r M h => ?_)
                                      refine a_icmp_eq (tgt := 1237) dL_law_585 (by decide) (fun c => ?_) (fun c => ?_)
                                      · have h := h.1 c
                                        refine a_sub [0, 1, 2, 3] rfl ?_
                                        exact sL_c1237 ih _ _ h
                                      · have h := h.2 c
                                        refine a_iconst (v := 0) dL_law_588 (by decide) ?_
                                        exact h.elim
                                    · refine em_c h (fun c16 h => ?_) (fun c16 h => ?_)
                                      · refine a_tableIn (off := 558) (tgt := 590) dL_law_32 (by rw [c16]; decide) (by rw [c16]; decide) (by rw [c16]; rfl) (by decide) ?_
                                        refine a_aload_n dL_law_590 1 rfl ?_
                                        refine a_aload_n dL_law_591 0 rfl ?_
                                        refine a_iload_n dL_law_592 3 rfl ?_
                                        refine a_iconst (v := 1) dL_law_593 (by decide) ?_
                                        refine a_iadd dL_law_594 ?_
                                        refine a_sld dL_law_595 h.1 ?_
                                        have h := h.2
                                        refine a_callVi (n := 1) [.int _] (C := RX4) (ci := 2) (qc := (RX4, TX4, 12)) (fsF := fl2 G _) ob_0.1 (fun _ => en2 ob_0.2) rfl rfl dL_law_596 (s4_falls h) (gV tbl kM_RL_81_X4_falls kI_X4_falls kS_X4_falls kN_RX4 kC_X4_falls) rfl (by decide +kernel) ⟨Nat.le_of_ble_eq_true rfl, Nat.le_of_ble_eq_true rfl⟩ rfl rfl (Nat.le_of_ble_eq_true rfl) ⟨Nat.le_of_ble_eq_true rfl, Nat.le_of_ble_eq_true rfl⟩ (fun r M h => ?_)
                                        refine a_aload_n dL_law_599 2 rfl ?_
                                        refine a_aload_n dL_law_600 0 rfl ?_
                                        refine a_iload_n dL_law_601 3 rfl ?_
                                        refine a_iconst (v := 1) dL_law_602 (by decide) ?_
                                        refine a_iadd dL_law_603 ?_
                                        refine a_sld dL_law_604 h.1 ?_
                                        have h := h.2
                                        refine a_callVi (n := 1) [.int _] (C := RX5) (ci := 3) (qc := (RX5, TX5, 40)) (fsF := fl3 G _) ob_62.1 (fun _ => en3 ob_62.2) rfl rfl dL_law_605 (s5_falls h) (gV tbl kM_RL_84_X5_falls kI_X5_falls kS_X5_falls kN_RX5 kC_X5_falls) rfl (by decide +kernel) ⟨Nat.le_of_ble_eq_true rfl, Nat.le_of_ble_eq_true rfl⟩ rfl rfl (Nat.le_of_ble_eq_true rfl) ⟨Nat.le_of_ble_eq_true rfl, Nat.le_of_ble_eq_true rfl⟩ (fun r M h => ?_)
                                        refine a_icmp_eq (tgt := 1237) dL_law_608 (by decide) (fun c => ?_) (fun c => ?_)
                                        · have h := h.1 c
                                          refine a_sub [0, 1, 2, 3] rfl ?_
                                          exact sL_c1237 ih _ _ h
                                        · have h := h.2 c
                                          refine a_iconst (v := 0) dL_law_611 (by decide) ?_
                                          exact h.elim
                                      · refine em_c h (fun c17 h => ?_) (fun c17 h => ?_)
                                        · refine a_tableIn (off := 581) (tgt := 613) dL_law_32 (by rw [c17]; decide) (by rw [c17]; decide) (by rw [c17]; rfl) (by decide) ?_
                                          refine a_aload_n dL_law_613 1 rfl ?_
                                          refine a_aload_n dL_law_614 0 rfl ?_
                                          refine a_iload_n dL_law_615 3 rfl ?_
                                          refine a_iconst (v := 1) dL_law_616 (by decide) ?_
                                          refine a_iadd dL_law_617 ?_
                                          refine a_sld dL_law_618 h.1 ?_
                                          have h := h.2
                                          refine a_aload_n dL_law_619 0 rfl ?_
                                          refine a_iload_n dL_law_620 3 rfl ?_
                                          refine a_iconst (v := 2) dL_law_621 (by decide) ?_
                                          refine a_iadd dL_law_622 ?_
                                          refine a_sld dL_law_623 h.1 ?_
                                          have h := h.2
                                          refine a_aload_n dL_law_624 0 rfl ?_
                                          refine a_iload_n dL_law_625 3 rfl ?_
                                          refine a_iconst (v := 3) dL_law_626 (by decide) ?_
                                          refine a_iadd dL_law_627 ?_
                                          refine a_sld dL_law_628 h.1 ?_
                                          have h := h.2
                                          refine a_callVi (n := 3) [.int _, .int _, .int _] (C := RX4) (ci := 2) (qc := (RX4, TX4, 12)) (fsF := fl2 G _) ob_0.1 (fun _ => en2 ob_0.2) rfl rfl dL_law_629 (s4_keep h) (gV tbl kM_RL_85_X4_keep kI_X4_keep kS_X4_keep kN_RX4 kC_X4_keep) rfl (by decide +kernel) ⟨Nat.le_of_ble_eq_true rfl, Nat.le_of_ble_eq_true rfl⟩ rfl rfl (Nat.le_of_ble_eq_true rfl) ⟨Nat.le_of_ble_eq_true rfl, Nat.le_of_ble_eq_true rfl⟩ (fun r M h => ?_)
                                          refine a_aload_n dL_law_632 2 rfl ?_
                                          refine a_aload_n dL_law_633 0 rfl ?_
                                          refine a_iload_n dL_law_634 3 rfl ?_
                                          refine a_iconst (v := 1) dL_law_635 (by decide) ?_
                                          refine a_iadd dL_law_636 ?_
                                          refine a_sld dL_law_637 h.1 ?_
                                          have h := h.2
                                          refine a_aload_n dL_law_638 0 rfl ?_
                                          refine a_iload_n dL_law_639 3 rfl ?_
                                          refine a_iconst (v := 2) dL_law_640 (by decide) ?_
                                          refine a_iadd dL_law_641 ?_
                                          refine a_sld dL_law_642 h.1 ?_
                                          have h := h.2
                                          refine a_aload_n dL_law_643 0 rfl ?_
                                          refine a_iload_n dL_law_644 3 rfl ?_
                                          refine a_iconst (v := 3) dL_law_645 (by decide) ?_
                                          refine a_iadd dL_law_646 ?_
                                          refine a_sld dL_law_647 h.1 ?_
                                          have h := h.2
                                          refine a_callVi (n := 3) [.int _, .int _, .int _] (C := RX5) (ci := 3) (qc := (RX5, TX5, 40)) (fsF := fl3 G _) ob_62.1 (fun _ => en3 ob_62.2) rfl rfl dL_law_648 (s5_keep h) (gV tbl kM_RL_88_X5_keep kI_X5_keep kS_X5_keep kN_RX5 kC_X5_keep) rfl (by decide +kernel) ⟨Nat.le_of_ble_eq_true rfl, Nat.le_of_ble_eq_true rfl⟩ rfl rfl (Nat.le_of_ble_eq_true rfl) ⟨Nat.le_of_ble_eq_true rfl, Nat.le_of_ble_eq_true rfl⟩ (fun r M h => ?_)
                                          refine a_icmp_eq (tgt := 1237) dL_law_651 (by decide) (fun c => ?_) (fun c => ?_)
                                          · have h := h.1 c
                                            refine a_sub [0, 1, 2, 3] rfl ?_
                                            exact sL_c1237 ih _ _ h
                                          · have h := h.2 c
                                            refine a_iconst (v := 0) dL_law_654 (by decide) ?_
                                            exact h.elim
                                        · refine em_c h (fun c18 h => ?_) (fun c18 h => ?_)
                                          · refine a_tableIn (off := 624) (tgt := 656) dL_law_32 (by rw [c18]; decide) (by rw [c18]; decide) (by rw [c18]; rfl) (by decide) ?_
                                            refine a_aload_n dL_law_656 1 rfl ?_
                                            refine a_aload_n dL_law_657 0 rfl ?_
                                            refine a_iload_n dL_law_658 3 rfl ?_
                                            refine a_iconst (v := 1) dL_law_659 (by decide) ?_
                                            refine a_iadd dL_law_660 ?_
                                            refine a_sld dL_law_661 h.1 ?_
                                            have h := h.2
                                            refine a_aload_n dL_law_662 0 rfl ?_
                                            refine a_iload_n dL_law_663 3 rfl ?_
                                            refine a_iconst (v := 2) dL_law_664 (by decide) ?_
                                            refine a_iadd dL_law_665 ?_
                                            refine a_sld dL_law_666 h.1 ?_
                                            have h := h.2
                                            refine a_aload_n dL_law_667 0 rfl ?_
                                            refine a_iload_n dL_law_668 3 rfl ?_
                                            refine a_iconst (v := 3) dL_law_669 (by decide) ?_
                                            refine a_iadd dL_law_670 ?_
                                            refine a_sld dL_law_671 h.1 ?_
                                            have h := h.2
                                            refine a_aload_n dL_law_672 0 rfl ?_
                                            refine a_iload_n dL_law_673 3 rfl ?_
                                            refine a_iconst (v := 4) dL_law_674 (by decide) ?_
                                            refine a_iadd dL_law_675 ?_
                                            refine a_sld dL_law_676 h.1 ?_
                                            have h := h.2
                                            refine a_callVi (n := 4) [.int _, .int _, .int _, .int _] (C := RX4) (ci := 2) (qc := (RX4, TX4, 12)) (fsF := fl2 G _) ob_0.1 (fun _ => en2 ob_0.2) rfl rfl dL_law_677 (s4_best h) (gV tbl kM_RL_89_X4_best kI_X4_best kS_X4_best kN_RX4 kC_X4_best) rfl (by decide +kernel) ⟨Nat.le_of_ble_eq_true rfl, Nat.le_of_ble_eq_true rfl⟩ rfl rfl (Nat.le_of_ble_eq_true rfl) ⟨Nat.le_of_ble_eq_true rfl, Nat.le_of_ble_eq_true rfl⟩ (fun r M h => ?_)
                                            refine a_aload_n dL_law_680 2 rfl ?_
                                            refine a_aload_n dL_law_681 0 rfl ?_
                                            refine a_iload_n dL_law_682 3 rfl ?_
                                            refine a_iconst (v := 1) dL_law_683 (by decide) ?_
                                            refine a_iadd dL_law_684 ?_
                                            refine a_sld dL_law_685 h.1 ?_
                                            have h := h.2
                                            refine a_aload_n dL_law_686 0 rfl ?_
                                            refine a_iload_n dL_law_687 3 rfl ?_
                                            refine a_iconst (v := 2) dL_law_688 (by decide) ?_
                                            refine a_iadd dL_law_689 ?_
                                            refine a_sld dL_law_690 h.1 ?_
                                            have h := h.2
                                            refine a_aload_n dL_law_691 0 rfl ?_
                                            refine a_iload_n dL_law_692 3 rfl ?_
                                            refine a_iconst (v := 3) dL_law_693 (by decide) ?_
                                            refine a_iadd dL_law_694 ?_
                                            refine a_sld dL_law_695 h.1 ?_
                                            have h := h.2
                                            refine a_aload_n dL_law_696 0 rfl ?_
                                            refine a_iload_n dL_law_697 3 rfl ?_
                                            refine a_iconst (v := 4) dL_law_698 (by decide) ?_
                                            refine a_iadd dL_law_699 ?_
                                            refine a_sld dL_law_700 h.1 ?_
                                            have h := h.2
                                            refine a_callVi (n := 4) [.int _, .int _, .int _, .int _] (C := RX5) (ci := 3) (qc := (RX5, TX5, 40)) (fsF := fl3 G _) ob_62.1 (fun _ => en3 ob_62.2) rfl rfl dL_law_701 (s5_best h) (gV tbl kM_RL_93_X5_best kI_X5_best kS_X5_best kN_RX5 kC_X5_best) rfl (by decide +kernel) ⟨Nat.le_of_ble_eq_true rfl, Nat.le_of_ble_eq_true rfl⟩ rfl rfl (Nat.le_of_ble_eq_true rfl) ⟨Nat.le_of_ble_eq_true rfl, Nat.le_of_ble_eq_true rfl⟩ (fun r M h => ?_)
                                            refine a_icmp_eq (tgt := 1237) dL_law_704 (by decide) (fun c => ?_) (fun c => ?_)
                                            · have h := h.1 c
                                              refine a_sub [0, 1, 2, 3] rfl ?_
                                              exact sL_c1237 ih _ _ h
                                            · have h := h.2 c
                                              refine a_iconst (v := 0) dL_law_707 (by decide) ?_
                                              exact h.elim
                                          · refine em_c h (fun c19 h => ?_) (fun c19 h => ?_)
                                            · refine a_tableIn (off := 677) (tgt := 709) dL_law_32 (by rw [c19]; decide) (by rw [c19]; decide) (by rw [c19]; rfl) (by decide) ?_
                                              refine a_aload_n dL_law_709 1 rfl ?_
                                              refine a_aload_n dL_law_710 0 rfl ?_
                                              refine a_iload_n dL_law_711 3 rfl ?_
                                              refine a_iconst (v := 1) dL_law_712 (by decide) ?_
                                              refine a_iadd dL_law_713 ?_
                                              refine a_sld dL_law_714 h.1 ?_
                                              have h := h.2
                                              refine a_callVi (n := 1) [.int _] (C := RX4) (ci := 2) (qc := (RX4, TX4, 12)) (fsF := fl2 G _) ob_0.1 (fun _ => en2 ob_0.2) rfl rfl dL_law_715 (s4_dredge h) (gV tbl kM_RL_94_X4_dredge kI_X4_dredge kS_X4_dredge kN_RX4 kC_X4_dredge) rfl (by decide +kernel) ⟨Nat.le_of_ble_eq_true rfl, Nat.le_of_ble_eq_true rfl⟩ rfl rfl (Nat.le_of_ble_eq_true rfl) ⟨Nat.le_of_ble_eq_true rfl, Nat.le_of_ble_eq_true rfl⟩ (fun r M h => ?_)
                                              refine a_aload_n dL_law_718 2 rfl ?_
                                              refine a_aload_n dL_law_719 0 rfl ?_
                                              refine a_iload_n dL_law_720 3 rfl ?_
                                              refine a_iconst (v := 1) dL_law_721 (by decide) ?_
                                              refine a_iadd dL_law_722 ?_
                                              refine a_sld dL_law_723 h.1 ?_
                                              have h := h.2
                                              refine a_callVi (n := 1) [.int _] (C := RX5) (ci := 3) (qc := (RX5, TX5, 40)) (fsF := fl3 G _) ob_62.1 (fun _ => en3 ob_62.2) rfl rfl dL_law_724 (s5_dredge h) (gV tbl kM_RL_97_X5_dredge kI_X5_dredge kS_X5_dredge kN_RX5 kC_X5_dredge) rfl (by decide +kernel) ⟨Nat.le_of_ble_eq_true rfl, Nat.le_of_ble_eq_true rfl⟩ rfl rfl (Nat.le_of_ble_eq_true rfl) ⟨Nat.le_of_ble_eq_true rfl, Nat.le_of_ble_eq_true rfl⟩ (fun r M h => ?_)
                                              refine a_icmp_eq (tgt := 1237) dL_law_727 (by decide) (fun c => ?_) (fun c => ?_)
                                              · have h := h.1 c
                                                refine a_sub [0, 1, 2, 3] rfl ?_
                                                exact sL_c1237 ih _ _ h
                                              · have h := h.2 c
                                                refine a_iconst (v := 0) dL_law_730 (by decide) ?_
                                                exact h.elim
                                            · refine em_c h (fun c20 h => ?_) (fun c20 h => ?_)
                                              · refine a_tableIn (off := 700) (tgt := 732) dL_law_32 (by rw [c20]; decide) (by rw [c20]; decide) (by rw [c20]; rfl) (by decide) ?_
                                                refine a_aload_n dL_law_732 1 rfl ?_
                                                refine a_aload_n dL_law_733 0 rfl ?_
                                                refine a_iload_n dL_law_734 3 rfl ?_
                                                refine a_iconst (v := 1) dL_law_735 (by decide) ?_
                                                refine a_iadd dL_law_736 ?_
                                                refine a_sld dL_law_737 h.1 ?_
                                                have h := h.2
                                                refine a_callVi (n := 1) [.int _] (C := RX4) (ci := 2) (qc := (RX4, TX4, 12)) (fsF := fl2 G _) ob_0.1 (fun _ => en2 ob_0.2) rfl rfl dL_law_738 (s4_round h) (gV tbl kM_RL_98_X4_round kI_X4_round kS_X4_round kN_RX4 kC_X4_round) rfl (by decide +kernel) ⟨Nat.le_of_ble_eq_true rfl, Nat.le_of_ble_eq_true rfl⟩ rfl rfl (Nat.le_of_ble_eq_true rfl) ⟨Nat.le_of_ble_eq_true rfl, Nat.le_of_ble_eq_true rfl⟩ (fun r M h => ?_)
                                                refine a_aload_n dL_law_741 2 rfl ?_
                                                refine a_aload_n dL_law_742 0 rfl ?_
                                                refine a_iload_n dL_law_743 3 rfl ?_
                                                refine a_iconst (v := 1) dL_law_744 (by decide) ?_
                                                refine a_iadd dL_law_745 ?_
                                                refine a_sld dL_law_746 h.1 ?_
                                                have h := h.2
                                                refine a_callVi (n := 1) [.int _] (C := RX5) (ci := 3) (qc := (RX5, TX5, 40)) (fsF := fl3 G _) ob_62.1 (fun _ => en3 ob_62.2) rfl rfl dL_law_747 (s5_round h) (gV tbl kM_RL_101_X5_round kI_X5_round kS_X5_round kN_RX5 kC_X5_round) rfl (by decide +kernel) ⟨Nat.le_of_ble_eq_true rfl, Nat.le_of_ble_eq_true rfl⟩ rfl rfl (Nat.le_of_ble_eq_true rfl) ⟨Nat.le_of_ble_eq_true rfl, Nat.le_of_ble_eq_true rfl⟩ (fun r M h => ?_)
                                                refine a_icmp_eq (tgt := 1237) dL_law_750 (by decide) (fun c => ?_) (fun c => ?_)
                                                · have h := h.1 c
                                                  refine a_sub [0, 1, 2, 3] rfl ?_
                                                  exact sL_c1237 ih _ _ h
                                                · have h := h.2 c
                                                  refine a_iconst (v := 0) dL_law_753 (by decide) ?_
                                                  exact h.elim
                                              · refine em_c h (fun c21 h => ?_) (fun c21 h => ?_)
                                                · refine a_tableIn (off := 723) (tgt := 755) dL_law_32 (by rw [c21]; decide) (by rw [c21]; decide) (by rw [c21]; rfl) (by decide) ?_
                                                  refine a_aload_n dL_law_755 1 rfl ?_
                                                  refine a_aload_n dL_law_756 0 rfl ?_
                                                  refine a_iload_n dL_law_757 3 rfl ?_
                                                  refine a_iconst (v := 1) dL_law_758 (by decide) ?_
                                                  refine a_iadd dL_law_759 ?_
                                                  refine a_sld dL_law_760 h.1 ?_
                                                  have h := h.2
                                                  refine a_callVi (n := 1) [.int _] (C := RX4) (ci := 2) (qc := (RX4, TX4, 12)) (fsF := fl2 G _) ob_0.1 (fun _ => en2 ob_0.2) rfl rfl dL_law_761 (s4_assessed h) (gV tbl kM_RL_102_X4_assessed kI_X4_assessed kS_X4_assessed kN_RX4 kC_X4_assessed) rfl (by decide +kernel) ⟨Nat.le_of_ble_eq_true rfl, Nat.le_of_ble_eq_true rfl⟩ rfl rfl (Nat.le_of_ble_eq_true rfl) ⟨Nat.le_of_ble_eq_true rfl, Nat.le_of_ble_eq_true rfl⟩ (fun r M h => ?_)
                                                  refine a_aload_n dL_law_764 2 rfl ?_
                                                  refine a_aload_n dL_law_765 0 rfl ?_
                                                  refine a_iload_n dL_law_766 3 rfl ?_
                                                  refine a_iconst (v := 1) dL_law_767 (by decide) ?_
                                                  refine a_iadd dL_law_768 ?_
                                                  refine a_sld dL_law_769 h.1 ?_
                                                  have h := h.2
                                                  refine a_callVi (n := 1) [.int _] (C := RX5) (ci := 3) (qc := (RX5, TX5, 40)) (fsF := fl3 G _) ob_62.1 (fun _ => en3 ob_62.2) rfl rfl dL_law_770 (s5_assessed h) (gV tbl kM_RL_105_X5_assessed kI_X5_assessed kS_X5_assessed kN_RX5 kC_X5_assessed) rfl (by decide +kernel) ⟨Nat.le_of_ble_eq_true rfl, Nat.le_of_ble_eq_true rfl⟩ rfl rfl (Nat.le_of_ble_eq_true rfl) ⟨Nat.le_of_ble_eq_true rfl, Nat.le_of_ble_eq_true rfl⟩ (fun r M h => ?_)
                                                  refine a_icmp_eq (tgt := 1237) dL_law_773 (by decide) (fun c => ?_) (fun c => ?_)
                                                  · have h := h.1 c
                                                    refine a_sub [0, 1, 2, 3] rfl ?_
                                                    exact sL_c1237 ih _ _ h
                                                  · have h := h.2 c
                                                    refine a_iconst (v := 0) dL_law_776 (by decide) ?_
                                                    exact h.elim
                                                · refine em_c h (fun c22 h => ?_) (fun c22 h => ?_)
                                                  · refine a_tableIn (off := 746) (tgt := 778) dL_law_32 (by rw [c22]; decide) (by rw [c22]; decide) (by rw [c22]; rfl) (by decide) ?_
                                                    refine a_aload_n dL_law_778 1 rfl ?_
                                                    refine a_aload_n dL_law_779 0 rfl ?_
                                                    refine a_iload_n dL_law_780 3 rfl ?_
                                                    refine a_iconst (v := 1) dL_law_781 (by decide) ?_
                                                    refine a_iadd dL_law_782 ?_
                                                    refine a_sld dL_law_783 h.1 ?_
                                                    have h := h.2
                                                    refine a_aload_n dL_law_784 0 rfl ?_
                                                    refine a_iload_n dL_law_785 3 rfl ?_
                                                    refine a_iconst (v := 2) dL_law_786 (by decide) ?_
                                                    refine a_iadd dL_law_787 ?_
                                                    refine a_sld dL_law_788 h.1 ?_
                                                    have h := h.2
                                                    refine a_callVi (n := 2) [.int _, .int _] (C := RX4) (ci := 2) (qc := (RX4, TX4, 12)) (fsF := fl2 G _) ob_0.1 (fun _ => en2 ob_0.2) rfl rfl dL_law_789 (s4_whatWas h) (gV tbl kM_RL_106_X4_whatWas kI_X4_whatWas kS_X4_whatWas kN_RX4 kC_X4_whatWas) rfl (by decide +kernel) ⟨Nat.le_of_ble_eq_true rfl, Nat.le_of_ble_eq_true rfl⟩ rfl rfl (Nat.le_of_ble_eq_true rfl) ⟨Nat.le_of_ble_eq_true rfl, Nat.le_of_ble_eq_true rfl⟩ (fun r M h => ?_)
                                                    refine a_aload_n dL_law_792 2 rfl ?_
                                                    refine a_aload_n dL_law_793 0 rfl ?_
                                                    refine a_iload_n dL_law_794 3 rfl ?_
                                                    refine a_iconst (v := 1) dL_law_795 (by decide) ?_
                                                    refine a_iadd dL_law_796 ?_
                                                    refine a_sld dL_law_797 h.1 ?_
                                                    have h := h.2
                                                    refine a_aload_n dL_law_798 0 rfl ?_
                                                    refine a_iload_n dL_law_799 3 rfl ?_
                                                    refine a_iconst (v := 2) dL_law_800 (by decide) ?_
                                                    refine a_iadd dL_law_801 ?_
                                                    refine a_sld dL_law_802 h.1 ?_
                                                    have h := h.2
                                                    refine a_callVi (n := 2) [.int _, .int _] (C := RX5) (ci := 3) (qc := (RX5, TX5, 40)) (fsF := fl3 G _) ob_62.1 (fun _ => en3 ob_62.2) rfl rfl dL_law_803 (s5_whatWas h) (gV tbl kM_RL_109_X5_whatWas kI_X5_whatWas kS_X5_whatWas kN_RX5 kC_X5_whatWas) rfl (by decide +kernel) ⟨Nat.le_of_ble_eq_true rfl, Nat.le_of_ble_eq_true rfl⟩ rfl rfl (Nat.le_of_ble_eq_true rfl) ⟨Nat.le_of_ble_eq_true rfl, Nat.le_of_ble_eq_true rfl⟩ (fun r M h => ?_)
                                                    refine a_icmp_eq (tgt := 1237) dL_law_806 (by decide) (fun c => ?_) (fun c => ?_)
                                                    · have h := h.1 c
                                                      refine a_sub [0, 1, 2, 3] rfl ?_
                                                      exact sL_c1237 ih _ _ h
                                                    · have h := h.2 c
                                                      refine a_iconst (v := 0) dL_law_809 (by decide) ?_
                                                      exact h.elim
                                                  · refine em_c h (fun c23 h => ?_) (fun c23 h => ?_)
                                                    · refine a_tableIn (off := 779) (tgt := 811) dL_law_32 (by rw [c23]; decide) (by rw [c23]; decide) (by rw [c23]; rfl) (by decide) ?_
                                                      refine a_aload_n dL_law_811 1 rfl ?_
                                                      refine a_callVi (n := 0) [] (C := RX4) (ci := 2) (qc := (RX4, TX4, 12)) (fsF := fl2 G _) ob_0.1 (fun _ => en2 ob_0.2) rfl rfl dL_law_812 (s4_howHigh h) (gV tbl kM_RL_110_X4_howHigh kI_X4_howHigh kS_X4_howHigh kN_RX4 kC_X4_howHigh) rfl (by decide +kernel) ⟨Nat.le_of_ble_eq_true rfl, Nat.le_of_ble_eq_true rfl⟩ rfl rfl (Nat.le_of_ble_eq_true rfl) ⟨Nat.le_of_ble_eq_true rfl, Nat.le_of_ble_eq_true rfl⟩ (fun r M h => ?_)
                                                      refine a_aload_n dL_law_815 2 rfl ?_
                                                      refine a_callVi (n := 0) [] (C := RX5) (ci := 3) (qc := (RX5, TX5, 40)) (fsF := fl3 G _) ob_62.1 (fun _ => en3 ob_62.2) rfl rfl dL_law_816 (s5_howHigh h) (gV tbl kM_RL_113_X5_howHigh kI_X5_howHigh kS_X5_howHigh kN_RX5 kC_X5_howHigh) rfl (by decide +kernel) ⟨Nat.le_of_ble_eq_true rfl, Nat.le_of_ble_eq_true rfl⟩ rfl rfl (Nat.le_of_ble_eq_true rfl) ⟨Nat.le_of_ble_eq_true rfl, Nat.le_of_ble_eq_true rfl⟩ (fun r M h => ?_)
                                                      refine a_icmp_eq (tgt := 1237) dL_law_819 (by decide) (fun c => ?_) (fun c => ?_)
                                                      · have h := h.1 c
                                                        refine a_sub [0, 1, 2, 3] rfl ?_
                                                        exact sL_c1237 ih _ _ h
                                                      · have h := h.2 c
                                                        refine a_iconst (v := 0) dL_law_822 (by decide) ?_
                                                        exact h.elim
                                                    · refine em_c h (fun c24 h => ?_) (fun c24 h => ?_)
                                                      · refine a_tableIn (off := 792) (tgt := 824) dL_law_32 (by rw [c24]; decide) (by rw [c24]; decide) (by rw [c24]; rfl) (by decide) ?_
                                                        refine a_aload_n dL_law_824 1 rfl ?_
                                                        refine a_aload_n dL_law_825 0 rfl ?_
                                                        refine a_iload_n dL_law_826 3 rfl ?_
                                                        refine a_iconst (v := 1) dL_law_827 (by decide) ?_
                                                        refine a_iadd dL_law_828 ?_
                                                        refine a_sld dL_law_829 h.1 ?_
                                                        have h := h.2
                                                        refine a_aload_n dL_law_830 0 rfl ?_
                                                        refine a_iload_n dL_law_831 3 rfl ?_
                                                        refine a_iconst (v := 2) dL_law_832 (by decide) ?_
                                                        refine a_iadd dL_law_833 ?_
                                                        refine a_sld dL_law_834 h.1 ?_
                                                        have h := h.2
                                                        refine a_callVi (n := 2) [.int _, .int _] (C := RX4) (ci := 2) (qc := (RX4, TX4, 12)) (fsF := fl2 G _) ob_0.1 (fun _ => en2 ob_0.2) rfl rfl dL_law_835 (s4_two h) (gV tbl kM_RL_114_X4_two kI_X4_two kS_X4_two kN_RX4 kC_X4_two) rfl (by decide +kernel) ⟨Nat.le_of_ble_eq_true rfl, Nat.le_of_ble_eq_true rfl⟩ rfl rfl (Nat.le_of_ble_eq_true rfl) ⟨Nat.le_of_ble_eq_true rfl, Nat.le_of_ble_eq_true rfl⟩ (fun r M h => ?_)
                                                        refine a_aload_n dL_law_838 2 rfl ?_
                                                        refine a_aload_n dL_law_839 0 rfl ?_
                                                        refine a_iload_n dL_law_840 3 rfl ?_
                                                        refine a_iconst (v := 1) dL_law_841 (by decide) ?_
                                                        refine a_iadd dL_law_842 ?_
                                                        refine a_sld dL_law_843 h.1 ?_
                                                        have h := h.2
                                                        refine a_aload_n dL_law_844 0 rfl ?_
                                                        refine a_iload_n dL_law_845 3 rfl ?_
                                                        refine a_iconst (v := 2) dL_law_846 (by decide) ?_
                                                        refine a_iadd dL_law_847 ?_
                                                        refine a_sld dL_law_848 h.1 ?_
                                                        have h := h.2
                                                        refine a_callVi (n := 2) [.int _, .int _] (C := RX5) (ci := 3) (qc := (RX5, TX5, 40)) (fsF := fl3 G _) ob_62.1 (fun _ => en3 ob_62.2) rfl rfl dL_law_849 (s5_two h) (gV tbl kM_RL_117_X5_two kI_X5_two kS_X5_two kN_RX5 kC_X5_two) rfl (by decide +kernel) ⟨Nat.le_of_ble_eq_true rfl, Nat.le_of_ble_eq_true rfl⟩ rfl rfl (Nat.le_of_ble_eq_true rfl) ⟨Nat.le_of_ble_eq_true rfl, Nat.le_of_ble_eq_true rfl⟩ (fun r M h => ?_)
                                                        refine a_icmp_eq (tgt := 1237) dL_law_852 (by decide) (fun c => ?_) (fun c => ?_)
                                                        · have h := h.1 c
                                                          refine a_sub [0, 1, 2, 3] rfl ?_
                                                          exact sL_c1237 ih _ _ h
                                                        · have h := h.2 c
                                                          refine a_iconst (v := 0) dL_law_855 (by decide) ?_
                                                          exact h.elim
                                                      · refine em_c h (fun c25 h => ?_) (fun c25 h => ?_)
                                                        · refine a_tableIn (off := 825) (tgt := 857) dL_law_32 (by rw [c25]; decide) (by rw [c25]; decide) (by rw [c25]; rfl) (by decide) ?_
                                                          refine a_aload_n dL_law_857 1 rfl ?_
                                                          refine a_aload_n dL_law_858 0 rfl ?_
                                                          refine a_iload_n dL_law_859 3 rfl ?_
                                                          refine a_iconst (v := 1) dL_law_860 (by decide) ?_
                                                          refine a_iadd dL_law_861 ?_
                                                          refine a_sld dL_law_862 h.1 ?_
                                                          have h := h.2
                                                          refine a_aload_n dL_law_863 0 rfl ?_
                                                          refine a_iload_n dL_law_864 3 rfl ?_
                                                          refine a_iconst (v := 2) dL_law_865 (by decide) ?_
                                                          refine a_iadd dL_law_866 ?_
                                                          refine a_sld dL_law_867 h.1 ?_
                                                          have h := h.2
                                                          refine a_aload_n dL_law_868 0 rfl ?_
                                                          refine a_iload_n dL_law_869 3 rfl ?_
                                                          refine a_iconst (v := 3) dL_law_870 (by decide) ?_
                                                          refine a_iadd dL_law_871 ?_
                                                          refine a_sld dL_law_872 h.1 ?_
                                                          have h := h.2
                                                          refine a_aload_n dL_law_873 0 rfl ?_
                                                          refine a_iload_n dL_law_874 3 rfl ?_
                                                          refine a_iconst (v := 4) dL_law_875 (by decide) ?_
                                                          refine a_iadd dL_law_876 ?_
                                                          refine a_sld dL_law_877 h.1 ?_
                                                          have h := h.2
                                                          refine a_callVl (n := 4) [.int _, .int _, .int _, .int _] (C := RX4) (ci := 2) (qc := (RX4, TX4, 12)) (fsF := fl2 G _) ob_0.1 (fun _ => en2 ob_0.2) rfl rfl dL_law_878 (s4_swells h) (gV tbl kM_RL_118_X4_swells kI_X4_swells kS_X4_swells kN_RX4 kC_X4_swells) rfl (by decide +kernel) ⟨Nat.le_of_ble_eq_true rfl, Nat.le_of_ble_eq_true rfl⟩ rfl rfl (Nat.le_of_ble_eq_true rfl) ⟨Nat.le_of_ble_eq_true rfl, Nat.le_of_ble_eq_true rfl⟩ (fun r M h => ?_)
                                                          refine a_aload_n dL_law_881 2 rfl ?_
                                                          refine a_aload_n dL_law_882 0 rfl ?_
                                                          refine a_iload_n dL_law_883 3 rfl ?_
                                                          refine a_iconst (v := 1) dL_law_884 (by decide) ?_
                                                          refine a_iadd dL_law_885 ?_
                                                          refine a_sld dL_law_886 h.1 ?_
                                                          have h := h.2
                                                          refine a_aload_n dL_law_887 0 rfl ?_
                                                          refine a_iload_n dL_law_888 3 rfl ?_
                                                          refine a_iconst (v := 2) dL_law_889 (by decide) ?_
                                                          refine a_iadd dL_law_890 ?_
                                                          refine a_sld dL_law_891 h.1 ?_
                                                          have h := h.2
                                                          refine a_aload_n dL_law_892 0 rfl ?_
                                                          refine a_iload_n dL_law_893 3 rfl ?_
                                                          refine a_iconst (v := 3) dL_law_894 (by decide) ?_
                                                          refine a_iadd dL_law_895 ?_
                                                          refine a_sld dL_law_896 h.1 ?_
                                                          have h := h.2
                                                          refine a_aload_n dL_law_897 0 rfl ?_
                                                          refine a_iload_n dL_law_898 3 rfl ?_
                                                          refine a_iconst (v := 4) dL_law_899 (by decide) ?_
                                                          refine a_iadd dL_law_900 ?_
                                                          refine a_sld dL_law_901 h.1 ?_
                                                          have h := h.2
                                                          refine a_callVl (n := 4) [.int _, .int _, .int _, .int _] (C := RX5) (ci := 3) (qc := (RX5, TX5, 40)) (fsF := fl3 G _) ob_62.1 (fun _ => en3 ob_62.2) rfl rfl dL_law_902 (s5_swells h) (gV tbl kM_RL_122_X5_swells kI_X5_swells kS_X5_swells kN_RX5 kC_X5_swells) rfl (by decide +kernel) ⟨Nat.le_of_ble_eq_true rfl, Nat.le_of_ble_eq_true rfl⟩ rfl rfl (Nat.le_of_ble_eq_true rfl) ⟨Nat.le_of_ble_eq_true rfl, Nat.le_of_ble_eq_true rfl⟩ (fun r M h => ?_)
                                                          refine a_lcmp dL_law_905 ?_
                                                          refine a_if_eq (tgt := 1237) dL_law_906 (by decide) (fun c => ?_) (fun c => ?_)
                                                          · have h := h.1 c
                                                            refine a_sub [0, 1, 2, 3] rfl ?_
                                                            exact sL_c1237 ih _ _ h
                                                          · have h := h.2 c
                                                            refine a_iconst (v := 0) dL_law_909 (by decide) ?_
                                                            exact h.elim
                                                        · refine em_c h (fun c26 h => ?_) (fun c26 h => ?_)
                                                          · refine a_tableIn (off := 879) (tgt := 911) dL_law_32 (by rw [c26]; decide) (by rw [c26]; decide) (by rw [c26]; rfl) (by decide) ?_
                                                            refine a_aload_n dL_law_911 1 rfl ?_
                                                            refine a_aload_n dL_law_912 0 rfl ?_
                                                            refine a_iload_n dL_law_913 3 rfl ?_
                                                            refine a_iconst (v := 1) dL_law_914 (by decide) ?_
                                                            refine a_iadd dL_law_915 ?_
                                                            refine a_sld dL_law_916 h.1 ?_
                                                            have h := h.2
                                                            refine a_aload_n dL_law_917 0 rfl ?_
                                                            refine a_iload_n dL_law_918 3 rfl ?_
                                                            refine a_iconst (v := 2) dL_law_919 (by decide) ?_
                                                            refine a_iadd dL_law_920 ?_
                                                            refine a_sld dL_law_921 h.1 ?_
                                                            have h := h.2
                                                            refine a_callVi (n := 2) [.int _, .int _] (C := RX4) (ci := 2) (qc := (RX4, TX4, 12)) (fsF := fl2 G _) ob_0.1 (fun _ => en2 ob_0.2) rfl rfl dL_law_922 (s4_shares h) (gV tbl kM_RL_123_X4_shares kI_X4_shares kS_X4_shares kN_RX4 kC_X4_shares) rfl (by decide +kernel) ⟨Nat.le_of_ble_eq_true rfl, Nat.le_of_ble_eq_true rfl⟩ rfl rfl (Nat.le_of_ble_eq_true rfl) ⟨Nat.le_of_ble_eq_true rfl, Nat.le_of_ble_eq_true rfl⟩ (fun r M h => ?_)
                                                            refine a_aload_n dL_law_925 2 rfl ?_
                                                            refine a_aload_n dL_law_926 0 rfl ?_
                                                            refine a_iload_n dL_law_927 3 rfl ?_
                                                            refine a_iconst (v := 1) dL_law_928 (by decide) ?_
                                                            refine a_iadd dL_law_929 ?_
                                                            refine a_sld dL_law_930 h.1 ?_
                                                            have h := h.2
                                                            refine a_aload_n dL_law_931 0 rfl ?_
                                                            refine a_iload_n dL_law_932 3 rfl ?_
                                                            refine a_iconst (v := 2) dL_law_933 (by decide) ?_
                                                            refine a_iadd dL_law_934 ?_
                                                            refine a_sld dL_law_935 h.1 ?_
                                                            have h := h.2
                                                            refine a_callVi (n := 2) [.int _, .int _] (C := RX5) (ci := 3) (qc := (RX5, TX5, 40)) (fsF := fl3 G _) ob_62.1 (fun _ => en3 ob_62.2) rfl rfl dL_law_936 (s5_shares h) (gV tbl kM_RL_126_X5_shares kI_X5_shares kS_X5_shares kN_RX5 kC_X5_shares) rfl (by decide +kernel) ⟨Nat.le_of_ble_eq_true rfl, Nat.le_of_ble_eq_true rfl⟩ rfl rfl (Nat.le_of_ble_eq_true rfl) ⟨Nat.le_of_ble_eq_true rfl, Nat.le_of_ble_eq_true rfl⟩ (fun r M h => ?_)
                                                            refine a_icmp_eq (tgt := 1237) dL_law_939 (by decide) (fun c => ?_) (fun c => ?_)
                                                            · have h := h.1 c
                                                              refine a_sub [0, 1, 2, 3] rfl ?_
                                                              exact sL_c1237 ih _ _ h
                                                            · have h := h.2 c
                                                              refine a_iconst (v := 0) dL_law_942 (by decide) ?_
                                                              exact h.elim
                                                          · refine em_c h (fun c27 h => ?_) (fun c27 h => ?_)
                                                            · refine a_tableIn (off := 912) (tgt := 944) dL_law_32 (by rw [c27]; decide) (by rw [c27]; decide) (by rw [c27]; rfl) (by decide) ?_
                                                              refine a_aload_n dL_law_944 1 rfl ?_
                                                              refine a_aload_n dL_law_945 0 rfl ?_
                                                              refine a_iload_n dL_law_946 3 rfl ?_
                                                              refine a_iconst (v := 1) dL_law_947 (by decide) ?_
                                                              refine a_iadd dL_law_948 ?_
                                                              refine a_sld dL_law_949 h.1 ?_
                                                              have h := h.2
                                                              refine a_callVi (n := 1) [.int _] (C := RX4) (ci := 2) (qc := (RX4, TX4, 12)) (fsF := fl2 G _) ob_0.1 (fun _ => en2 ob_0.2) rfl rfl dL_law_950 (s4_weakest h) (gV tbl kM_RL_127_X4_weakest kI_X4_weakest kS_X4_weakest kN_RX4 kC_X4_weakest) rfl (by decide +kernel) ⟨Nat.le_of_ble_eq_true rfl, Nat.le_of_ble_eq_true rfl⟩ rfl rfl (Nat.le_of_ble_eq_true rfl) ⟨Nat.le_of_ble_eq_true rfl, Nat.le_of_ble_eq_true rfl⟩ (fun r M h => ?_)
                                                              refine a_aload_n dL_law_953 2 rfl ?_
                                                              refine a_aload_n dL_law_954 0 rfl ?_
                                                              refine a_iload_n dL_law_955 3 rfl ?_
                                                              refine a_iconst (v := 1) dL_law_956 (by decide) ?_
                                                              refine a_iadd dL_law_957 ?_
                                                              refine a_sld dL_law_958 h.1 ?_
                                                              have h := h.2
                                                              refine a_callVi (n := 1) [.int _] (C := RX5) (ci := 3) (qc := (RX5, TX5, 40)) (fsF := fl3 G _) ob_62.1 (fun _ => en3 ob_62.2) rfl rfl dL_law_959 (s5_weakest h) (gV tbl kM_RL_130_X5_weakest kI_X5_weakest kS_X5_weakest kN_RX5 kC_X5_weakest) rfl (by decide +kernel) ⟨Nat.le_of_ble_eq_true rfl, Nat.le_of_ble_eq_true rfl⟩ rfl rfl (Nat.le_of_ble_eq_true rfl) ⟨Nat.le_of_ble_eq_true rfl, Nat.le_of_ble_eq_true rfl⟩ (fun r M h => ?_)
                                                              refine a_icmp_eq (tgt := 1237) dL_law_962 (by decide) (fun c => ?_) (fun c => ?_)
                                                              · have h := h.1 c
                                                                refine a_sub [0, 1, 2, 3] rfl ?_
                                                                exact sL_c1237 ih _ _ h
                                                              · have h := h.2 c
                                                                refine a_iconst (v := 0) dL_law_965 (by decide) ?_
                                                                exact h.elim
                                                            · refine em_c h (fun c28 h => ?_) (fun c28 h => ?_)
                                                              · refine a_tableIn (off := 935) (tgt := 967) dL_law_32 (by rw [c28]; decide) (by rw [c28]; decide) (by rw [c28]; rfl) (by decide) ?_
                                                                refine a_aload_n dL_law_967 1 rfl ?_
                                                                refine a_aload_n dL_law_968 0 rfl ?_
                                                                refine a_iload_n dL_law_969 3 rfl ?_
                                                                refine a_iconst (v := 1) dL_law_970 (by decide) ?_
                                                                refine a_iadd dL_law_971 ?_
                                                                refine a_sld dL_law_972 h.1 ?_
                                                                have h := h.2
                                                                refine a_callVl (n := 1) [.int _] (C := RX4) (ci := 2) (qc := (RX4, TX4, 12)) (fsF := fl2 G _) ob_0.1 (fun _ => en2 ob_0.2) rfl rfl dL_law_973 (s4_mean h) (gV tbl kM_RL_131_X4_mean kI_X4_mean kS_X4_mean kN_RX4 kC_X4_mean) rfl (by decide +kernel) ⟨Nat.le_of_ble_eq_true rfl, Nat.le_of_ble_eq_true rfl⟩ rfl rfl (Nat.le_of_ble_eq_true rfl) ⟨Nat.le_of_ble_eq_true rfl, Nat.le_of_ble_eq_true rfl⟩ (fun r M h => ?_)
                                                                refine a_aload_n dL_law_976 2 rfl ?_
                                                                refine a_aload_n dL_law_977 0 rfl ?_
                                                                refine a_iload_n dL_law_978 3 rfl ?_
                                                                refine a_iconst (v := 1) dL_law_979 (by decide) ?_
                                                                refine a_iadd dL_law_980 ?_
                                                                refine a_sld dL_law_981 h.1 ?_
                                                                have h := h.2
                                                                refine a_callVl (n := 1) [.int _] (C := RX5) (ci := 3) (qc := (RX5, TX5, 40)) (fsF := fl3 G _) ob_62.1 (fun _ => en3 ob_62.2) rfl rfl dL_law_982 (s5_mean h) (gV tbl kM_RL_135_X5_mean kI_X5_mean kS_X5_mean kN_RX5 kC_X5_mean) rfl (by decide +kernel) ⟨Nat.le_of_ble_eq_true rfl, Nat.le_of_ble_eq_true rfl⟩ rfl rfl (Nat.le_of_ble_eq_true rfl) ⟨Nat.le_of_ble_eq_true rfl, Nat.le_of_ble_eq_true rfl⟩ (fun r M h => ?_)
                                                                refine a_lcmp dL_law_985 ?_
                                                                refine a_if_eq (tgt := 1237) dL_law_986 (by decide) (fun c => ?_) (fun c => ?_)
                                                                · have h := h.1 c
                                                                  refine a_sub [0, 1, 2, 3] rfl ?_
                                                                  exact sL_c1237 ih _ _ h
                                                                · have h := h.2 c
                                                                  refine a_iconst (v := 0) dL_law_989 (by decide) ?_
                                                                  exact h.elim
                                                              · refine em_c h (fun c29 h => ?_) (fun c29 h => ?_)
                                                                · refine a_tableIn (off := 959) (tgt := 991) dL_law_32 (by rw [c29]; decide) (by rw [c29]; decide) (by rw [c29]; rfl) (by decide) ?_
                                                                  refine a_aload_n dL_law_991 1 rfl ?_
                                                                  refine a_callVi (n := 0) [] (C := RX4) (ci := 2) (qc := (RX4, TX4, 12)) (fsF := fl2 G _) ob_0.1 (fun _ => en2 ob_0.2) rfl rfl dL_law_992 (s4_low h) (gV tbl kM_RL_136_X4_low kI_X4_low kS_X4_low kN_RX4 kC_X4_low) rfl (by decide +kernel) ⟨Nat.le_of_ble_eq_true rfl, Nat.le_of_ble_eq_true rfl⟩ rfl rfl (Nat.le_of_ble_eq_true rfl) ⟨Nat.le_of_ble_eq_true rfl, Nat.le_of_ble_eq_true rfl⟩ (fun r M h => ?_)
                                                                  refine a_aload_n dL_law_995 2 rfl ?_
                                                                  refine a_callVi (n := 0) [] (C := RX5) (ci := 3) (qc := (RX5, TX5, 40)) (fsF := fl3 G _) ob_62.1 (fun _ => en3 ob_62.2) rfl rfl dL_law_996 (s5_low h) (gV tbl kM_RL_139_X5_low kI_X5_low kS_X5_low kN_RX5 kC_X5_low) rfl (by decide +kernel) ⟨Nat.le_of_ble_eq_true rfl, Nat.le_of_ble_eq_true rfl⟩ rfl rfl (Nat.le_of_ble_eq_true rfl) ⟨Nat.le_of_ble_eq_true rfl, Nat.le_of_ble_eq_true rfl⟩ (fun r M h => ?_)
                                                                  refine a_icmp_eq (tgt := 1237) dL_law_999 (by decide) (fun c => ?_) (fun c => ?_)
                                                                  · have h := h.1 c
                                                                    refine a_sub [0, 1, 2, 3] rfl ?_
                                                                    exact sL_c1237 ih _ _ h
                                                                  · have h := h.2 c
                                                                    refine a_iconst (v := 0) dL_law_1002 (by decide) ?_
                                                                    exact h.elim
                                                                · refine em_c h (fun c30 h => ?_) (fun c30 h => ?_)
                                                                  · refine a_tableIn (off := 972) (tgt := 1004) dL_law_32 (by rw [c30]; decide) (by rw [c30]; decide) (by rw [c30]; rfl) (by decide) ?_
                                                                    refine a_aload_n dL_law_1004 1 rfl ?_
                                                                    refine a_callVi (n := 0) [] (C := RX4) (ci := 2) (qc := (RX4, TX4, 12)) (fsF := fl2 G _) ob_0.1 (fun _ => en2 ob_0.2) rfl rfl dL_law_1005 (s4_sand h) (gV tbl kM_RL_140_X4_sand kI_X4_sand kS_X4_sand kN_RX4 kC_X4_sand) rfl (by decide +kernel) ⟨Nat.le_of_ble_eq_true rfl, Nat.le_of_ble_eq_true rfl⟩ rfl rfl (Nat.le_of_ble_eq_true rfl) ⟨Nat.le_of_ble_eq_true rfl, Nat.le_of_ble_eq_true rfl⟩ (fun r M h => ?_)
                                                                    refine a_aload_n dL_law_1008 2 rfl ?_
                                                                    refine a_callVi (n := 0) [] (C := RX5) (ci := 3) (qc := (RX5, TX5, 40)) (fsF := fl3 G _) ob_62.1 (fun _ => en3 ob_62.2) rfl rfl dL_law_1009 (s5_sand h) (gV tbl kM_RL_143_X5_sand kI_X5_sand kS_X5_sand kN_RX5 kC_X5_sand) rfl (by decide +kernel) ⟨Nat.le_of_ble_eq_true rfl, Nat.le_of_ble_eq_true rfl⟩ rfl rfl (Nat.le_of_ble_eq_true rfl) ⟨Nat.le_of_ble_eq_true rfl, Nat.le_of_ble_eq_true rfl⟩ (fun r M h => ?_)
                                                                    refine a_icmp_eq (tgt := 1237) dL_law_1012 (by decide) (fun c => ?_) (fun c => ?_)
                                                                    · have h := h.1 c
                                                                      refine a_sub [0, 1, 2, 3] rfl ?_
                                                                      exact sL_c1237 ih _ _ h
                                                                    · have h := h.2 c
                                                                      refine a_iconst (v := 0) dL_law_1015 (by decide) ?_
                                                                      exact h.elim
                                                                  · refine em_c h (fun c31 h => ?_) (fun c31 h => ?_)
                                                                    · refine a_tableIn (off := 985) (tgt := 1017) dL_law_32 (by rw [c31]; decide) (by rw [c31]; decide) (by rw [c31]; rfl) (by decide) ?_
                                                                      refine a_aload_n dL_law_1017 1 rfl ?_
                                                                      refine a_aload_n dL_law_1018 0 rfl ?_
                                                                      refine a_iload_n dL_law_1019 3 rfl ?_
                                                                      refine a_iconst (v := 1) dL_law_1020 (by decide) ?_
                                                                      refine a_iadd dL_law_1021 ?_
                                                                      refine a_sld dL_law_1022 h.1 ?_
                                                                      have h := h.2
                                                                      refine a_aload_n dL_law_1023 0 rfl ?_
                                                                      refine a_iload_n dL_law_1024 3 rfl ?_
                                                                      refine a_iconst (v := 2) dL_law_1025 (by decide) ?_
                                                                      refine a_iadd dL_law_1026 ?_
                                                                      refine a_sld dL_law_1027 h.1 ?_
                                                                      have h := h.2
                                                                      refine a_callVi (n := 2) [.int _, .int _] (C := RX4) (ci := 2) (qc := (RX4, TX4, 12)) (fsF := fl2 G _) ob_0.1 (fun _ => en2 ob_0.2) rfl rfl dL_law_1028 (s4_mended h) (gV tbl kM_RL_144_X4_mended kI_X4_mended kS_X4_mended kN_RX4 kC_X4_mended) rfl (by decide +kernel) ⟨Nat.le_of_ble_eq_true rfl, Nat.le_of_ble_eq_true rfl⟩ rfl rfl (Nat.le_of_ble_eq_true rfl) ⟨Nat.le_of_ble_eq_true rfl, Nat.le_of_ble_eq_true rfl⟩ (fun r M h => ?_)
                                                                      refine a_aload_n dL_law_1031 2 rfl ?_
                                                                      refine a_aload_n dL_law_1032 0 rfl ?_
                                                                      refine a_iload_n dL_law_1033 3 rfl ?_
                                                                      refine a_iconst (v := 1) dL_law_1034 (by decide) ?_
                                                                      refine a_iadd dL_law_1035 ?_
                                                                      refine a_sld dL_law_1036 h.1 ?_
                                                                      have h := h.2
                                                                      refine a_aload_n dL_law_1037 0 rfl ?_
                                                                      refine a_iload_n dL_law_1038 3 rfl ?_
                                                                      refine a_iconst (v := 2) dL_law_1039 (by decide) ?_
                                                                      refine a_iadd dL_law_1040 ?_
                                                                      refine a_sld dL_law_1041 h.1 ?_
                                                                      have h := h.2
                                                                      refine a_callVi (n := 2) [.int _, .int _] (C := RX5) (ci := 3) (qc := (RX5, TX5, 40)) (fsF := fl3 G _) ob_62.1 (fun _ => en3 ob_62.2) rfl rfl dL_law_1042 (s5_mended h) (gV tbl kM_RL_147_X5_mended kI_X5_mended kS_X5_mended kN_RX5 kC_X5_mended) rfl (by decide +kernel) ⟨Nat.le_of_ble_eq_true rfl, Nat.le_of_ble_eq_true rfl⟩ rfl rfl (Nat.le_of_ble_eq_true rfl) ⟨Nat.le_of_ble_eq_true rfl, Nat.le_of_ble_eq_true rfl⟩ (fun r M h => ?_)
                                                                      refine a_icmp_eq (tgt := 1237) dL_law_1045 (by decide) (fun c => ?_) (fun c => ?_)
                                                                      · have h := h.1 c
                                                                        refine a_sub [0, 1, 2, 3] rfl ?_
                                                                        exact sL_c1237 ih _ _ h
                                                                      · have h := h.2 c
                                                                        refine a_iconst (v := 0) dL_law_1048 (by decide) ?_
                                                                        exact h.elim
                                                                    · refine em_c h (fun c32 h => ?_) (fun c32 h => ?_)
                                                                      · refine a_tableIn (off := 1018) (tgt := 1050) dL_law_32 (by rw [c32]; decide) (by rw [c32]; decide) (by rw [c32]; rfl) (by decide) ?_
                                                                        refine a_aload_n dL_law_1050 1 rfl ?_
                                                                        refine a_aload_n dL_law_1051 0 rfl ?_
                                                                        refine a_iload_n dL_law_1052 3 rfl ?_
                                                                        refine a_iconst (v := 1) dL_law_1053 (by decide) ?_
                                                                        refine a_iadd dL_law_1054 ?_
                                                                        refine a_sld dL_law_1055 h.1 ?_
                                                                        have h := h.2
                                                                        refine a_callVi (n := 1) [.int _] (C := RX4) (ci := 2) (qc := (RX4, TX4, 12)) (fsF := fl2 G _) ob_0.1 (fun _ => en2 ob_0.2) rfl rfl dL_law_1056 (s4_pairs h) (gV tbl kM_RL_148_X4_pairs kI_X4_pairs kS_X4_pairs kN_RX4 kC_X4_pairs) rfl (by decide +kernel) ⟨Nat.le_of_ble_eq_true rfl, Nat.le_of_ble_eq_true rfl⟩ rfl rfl (Nat.le_of_ble_eq_true rfl) ⟨Nat.le_of_ble_eq_true rfl, Nat.le_of_ble_eq_true rfl⟩ (fun r M h => ?_)
                                                                        refine a_aload_n dL_law_1059 2 rfl ?_
                                                                        refine a_aload_n dL_law_1060 0 rfl ?_
                                                                        refine a_iload_n dL_law_1061 3 rfl ?_
                                                                        refine a_iconst (v := 1) dL_law_1062 (by decide) ?_
                                                                        refine a_iadd dL_law_1063 ?_
                                                                        refine a_sld dL_law_1064 h.1 ?_
                                                                        have h := h.2
                                                                        refine a_callVi (n := 1) [.int _] (C := RX5) (ci := 3) (qc := (RX5, TX5, 40)) (fsF := fl3 G _) ob_62.1 (fun _ => en3 ob_62.2) rfl rfl dL_law_1065 (s5_pairs h) (gV tbl kM_RL_151_X5_pairs kI_X5_pairs kS_X5_pairs kN_RX5 kC_X5_pairs) rfl (by decide +kernel) ⟨Nat.le_of_ble_eq_true rfl, Nat.le_of_ble_eq_true rfl⟩ rfl rfl (Nat.le_of_ble_eq_true rfl) ⟨Nat.le_of_ble_eq_true rfl, Nat.le_of_ble_eq_true rfl⟩ (fun r M h => ?_)
                                                                        refine a_icmp_eq (tgt := 1237) dL_law_1068 (by decide) (fun c => ?_) (fun c => ?_)
                                                                        · have h := h.1 c
                                                                          refine a_sub [0, 1, 2, 3] rfl ?_
                                                                          exact sL_c1237 ih _ _ h
                                                                        · have h := h.2 c
                                                                          refine a_iconst (v := 0) dL_law_1071 (by decide) ?_
                                                                          exact h.elim
                                                                      · refine em_c h (fun c33 h => ?_) (fun c33 h => ?_)
                                                                        · refine a_tableIn (off := 1041) (tgt := 1073) dL_law_32 (by rw [c33]; decide) (by rw [c33]; decide) (by rw [c33]; rfl) (by decide) ?_
                                                                          refine a_aload_n dL_law_1073 1 rfl ?_
                                                                          refine a_aload_n dL_law_1074 0 rfl ?_
                                                                          refine a_iload_n dL_law_1075 3 rfl ?_
                                                                          refine a_iconst (v := 1) dL_law_1076 (by decide) ?_
                                                                          refine a_iadd dL_law_1077 ?_
                                                                          refine a_sld dL_law_1078 h.1 ?_
                                                                          have h := h.2
                                                                          refine a_callVi (n := 1) [.int _] (C := RX4) (ci := 2) (qc := (RX4, TX4, 12)) (fsF := fl2 G _) ob_0.1 (fun _ => en2 ob_0.2) rfl rfl dL_law_1079 (s4_turrets h) (gV tbl kM_RL_152_X4_turrets kI_X4_turrets kS_X4_turrets kN_RX4 kC_X4_turrets) rfl (by decide +kernel) ⟨Nat.le_of_ble_eq_true rfl, Nat.le_of_ble_eq_true rfl⟩ rfl rfl (Nat.le_of_ble_eq_true rfl) ⟨Nat.le_of_ble_eq_true rfl, Nat.le_of_ble_eq_true rfl⟩ (fun r M h => ?_)
                                                                          refine a_aload_n dL_law_1082 2 rfl ?_
                                                                          refine a_aload_n dL_law_1083 0 rfl ?_
                                                                          refine a_iload_n dL_law_1084 3 rfl ?_
                                                                          refine a_iconst (v := 1) dL_law_1085 (by decide) ?_
                                                                          refine a_iadd dL_law_1086 ?_
                                                                          refine a_sld dL_law_1087 h.1 ?_
                                                                          have h := h.2
                                                                          refine a_callVi (n := 1) [.int _] (C := RX5) (ci := 3) (qc := (RX5, TX5, 40)) (fsF := fl3 G _) ob_62.1 (fun _ => en3 ob_62.2) rfl rfl dL_law_1088 (s5_turrets h) (gV tbl kM_RL_155_X5_turrets kI_X5_turrets kS_X5_turrets kN_RX5 kC_X5_turrets) rfl (by decide +kernel) ⟨Nat.le_of_ble_eq_true rfl, Nat.le_of_ble_eq_true rfl⟩ rfl rfl (Nat.le_of_ble_eq_true rfl) ⟨Nat.le_of_ble_eq_true rfl, Nat.le_of_ble_eq_true rfl⟩ (fun r M h => ?_)
                                                                          refine a_icmp_eq (tgt := 1237) dL_law_1091 (by decide) (fun c => ?_) (fun c => ?_)
                                                                          · have h := h.1 c
                                                                            refine a_sub [0, 1, 2, 3] rfl ?_
                                                                            exact sL_c1237 ih _ _ h
                                                                          · have h := h.2 c
                                                                            refine a_iconst (v := 0) dL_law_1094 (by decide) ?_
                                                                            exact h.elim
                                                                        · refine em_c h (fun c34 h => ?_) (fun c34 h => ?_)
                                                                          · refine a_tableIn (off := 1064) (tgt := 1096) dL_law_32 (by rw [c34]; decide) (by rw [c34]; decide) (by rw [c34]; rfl) (by decide) ?_
                                                                            refine a_aload_n dL_law_1096 1 rfl ?_
                                                                            refine a_aload_n dL_law_1097 0 rfl ?_
                                                                            refine a_iload_n dL_law_1098 3 rfl ?_
                                                                            refine a_iconst (v := 1) dL_law_1099 (by decide) ?_
                                                                            refine a_iadd dL_law_1100 ?_
                                                                            refine a_sld dL_law_1101 h.1 ?_
                                                                            have h := h.2
                                                                            refine a_callVi (n := 1) [.int _] (C := RX4) (ci := 2) (qc := (RX4, TX4, 12)) (fsF := fl2 G _) ob_0.1 (fun _ => en2 ob_0.2) rfl rfl dL_law_1102 (s4_row h) (gV tbl kM_RL_156_X4_row kI_X4_row kS_X4_row kN_RX4 kC_X4_row) rfl (by decide +kernel) ⟨Nat.le_of_ble_eq_true rfl, Nat.le_of_ble_eq_true rfl⟩ rfl rfl (Nat.le_of_ble_eq_true rfl) ⟨Nat.le_of_ble_eq_true rfl, Nat.le_of_ble_eq_true rfl⟩ (fun r M h => ?_)
                                                                            refine a_aload_n dL_law_1105 2 rfl ?_
                                                                            refine a_aload_n dL_law_1106 0 rfl ?_
                                                                            refine a_iload_n dL_law_1107 3 rfl ?_
                                                                            refine a_iconst (v := 1) dL_law_1108 (by decide) ?_
                                                                            refine a_iadd dL_law_1109 ?_
                                                                            refine a_sld dL_law_1110 h.1 ?_
                                                                            have h := h.2
                                                                            refine a_callVi (n := 1) [.int _] (C := RX5) (ci := 3) (qc := (RX5, TX5, 40)) (fsF := fl3 G _) ob_62.1 (fun _ => en3 ob_62.2) rfl rfl dL_law_1111 (s5_row h) (gV tbl kM_RL_159_X5_row kI_X5_row kS_X5_row kN_RX5 kC_X5_row) rfl (by decide +kernel) ⟨Nat.le_of_ble_eq_true rfl, Nat.le_of_ble_eq_true rfl⟩ rfl rfl (Nat.le_of_ble_eq_true rfl) ⟨Nat.le_of_ble_eq_true rfl, Nat.le_of_ble_eq_true rfl⟩ (fun r M h => ?_)
                                                                            refine a_icmp_eq (tgt := 1237) dL_law_1114 (by decide) (fun c => ?_) (fun c => ?_)
                                                                            · have h := h.1 c
                                                                              refine a_sub [0, 1, 2, 3] rfl ?_
                                                                              exact sL_c1237 ih _ _ h
                                                                            · have h := h.2 c
                                                                              refine a_iconst (v := 0) dL_law_1117 (by decide) ?_
                                                                              exact h.elim
                                                                          · refine em_c h (fun c35 h => ?_) (fun c35 h => ?_)
                                                                            · refine a_tableIn (off := 1087) (tgt := 1119) dL_law_32 (by rw [c35]; decide) (by rw [c35]; decide) (by rw [c35]; rfl) (by decide) ?_
                                                                              refine a_aload_n dL_law_1119 1 rfl ?_
                                                                              refine a_callVi (n := 0) [] (C := RX4) (ci := 2) (qc := (RX4, TX4, 12)) (fsF := fl2 G _) ob_0.1 (fun _ => en2 ob_0.2) rfl rfl dL_law_1120 (s4_judge h) (gV tbl kM_RL_160_X4_judge kI_X4_judge kS_X4_judge kN_RX4 kC_X4_judge) rfl (by decide +kernel) ⟨Nat.le_of_ble_eq_true rfl, Nat.le_of_ble_eq_true rfl⟩ rfl rfl (Nat.le_of_ble_eq_true rfl) ⟨Nat.le_of_ble_eq_true rfl, Nat.le_of_ble_eq_true rfl⟩ (fun r M h => ?_)
                                                                              refine a_aload_n dL_law_1123 2 rfl ?_
                                                                              refine a_callVi (n := 0) [] (C := RX5) (ci := 3) (qc := (RX5, TX5, 40)) (fsF := fl3 G _) ob_62.1 (fun _ => en3 ob_62.2) rfl rfl dL_law_1124 (s5_judge h) (gV tbl kM_RL_163_X5_judge kI_X5_judge kS_X5_judge kN_RX5 kC_X5_judge) rfl (by decide +kernel) ⟨Nat.le_of_ble_eq_true rfl, Nat.le_of_ble_eq_true rfl⟩ rfl rfl (Nat.le_of_ble_eq_true rfl) ⟨Nat.le_of_ble_eq_true rfl, Nat.le_of_ble_eq_true rfl⟩ (fun r M h => ?_)
                                                                              refine a_icmp_eq (tgt := 1237) dL_law_1127 (by decide) (fun c => ?_) (fun c => ?_)
                                                                              · have h := h.1 c
                                                                                refine a_sub [0, 1, 2, 3] rfl ?_
                                                                                exact sL_c1237 ih _ _ h
                                                                              · have h := h.2 c
                                                                                refine a_iconst (v := 0) dL_law_1130 (by decide) ?_
                                                                                exact h.elim
                                                                            · refine em_c h (fun c36 h => ?_) (fun c36 h => ?_)
                                                                              · refine a_tableIn (off := 1100) (tgt := 1132) dL_law_32 (by rw [c36]; decide) (by rw [c36]; decide) (by rw [c36]; rfl) (by decide) ?_
                                                                                refine a_aload_n dL_law_1132 1 rfl ?_
                                                                                refine a_callVi (n := 0) [] (C := RX4) (ci := 2) (qc := (RX4, TX4, 12)) (fsF := fl2 G _) ob_0.1 (fun _ => en2 ob_0.2) rfl rfl dL_law_1133 (s4_clear h) (gV tbl kM_RL_164_X4_clear kI_X4_clear kS_X4_clear kN_RX4 kC_X4_clear) rfl (by decide +kernel) ⟨Nat.le_of_ble_eq_true rfl, Nat.le_of_ble_eq_true rfl⟩ rfl rfl (Nat.le_of_ble_eq_true rfl) ⟨Nat.le_of_ble_eq_true rfl, Nat.le_of_ble_eq_true rfl⟩ (fun r M h => ?_)
                                                                                refine a_aload_n dL_law_1136 2 rfl ?_
                                                                                refine a_callVi (n := 0) [] (C := RX5) (ci := 3) (qc := (RX5, TX5, 40)) (fsF := fl3 G _) ob_62.1 (fun _ => en3 ob_62.2) rfl rfl dL_law_1137 (s5_clear h) (gV tbl kM_RL_167_X5_clear kI_X5_clear kS_X5_clear kN_RX5 kC_X5_clear) rfl (by decide +kernel) ⟨Nat.le_of_ble_eq_true rfl, Nat.le_of_ble_eq_true rfl⟩ rfl rfl (Nat.le_of_ble_eq_true rfl) ⟨Nat.le_of_ble_eq_true rfl, Nat.le_of_ble_eq_true rfl⟩ (fun r M h => ?_)
                                                                                refine a_icmp_eq (tgt := 1237) dL_law_1140 (by decide) (fun c => ?_) (fun c => ?_)
                                                                                · have h := h.1 c
                                                                                  refine a_sub [0, 1, 2, 3] rfl ?_
                                                                                  exact sL_c1237 ih _ _ h
                                                                                · have h := h.2 c
                                                                                  refine a_iconst (v := 0) dL_law_1143 (by decide) ?_
                                                                                  exact h.elim
                                                                              · refine em_c h (fun c37 h => ?_) (fun c37 h => ?_)
                                                                                · refine a_tableIn (off := 1113) (tgt := 1145) dL_law_32 (by rw [c37]; decide) (by rw [c37]; decide) (by rw [c37]; rfl) (by decide) ?_
                                                                                  refine a_aload_n dL_law_1145 1 rfl ?_
                                                                                  refine a_aload_n dL_law_1146 0 rfl ?_
                                                                                  refine a_iload_n dL_law_1147 3 rfl ?_
                                                                                  refine a_iconst (v := 1) dL_law_1148 (by decide) ?_
                                                                                  refine a_iadd dL_law_1149 ?_
                                                                                  refine a_sld dL_law_1150 h.1 ?_
                                                                                  have h := h.2
                                                                                  refine a_aload_n dL_law_1151 0 rfl ?_
                                                                                  refine a_iload_n dL_law_1152 3 rfl ?_
                                                                                  refine a_iconst (v := 2) dL_law_1153 (by decide) ?_
                                                                                  refine a_iadd dL_law_1154 ?_
                                                                                  refine a_sld dL_law_1155 h.1 ?_
                                                                                  have h := h.2
                                                                                  refine a_aload_n dL_law_1156 0 rfl ?_
                                                                                  refine a_iload_n dL_law_1157 3 rfl ?_
                                                                                  refine a_iconst (v := 3) dL_law_1158 (by decide) ?_
                                                                                  refine a_iadd dL_law_1159 ?_
                                                                                  refine a_sld dL_law_1160 h.1 ?_
                                                                                  have h := h.2
                                                                                  refine a_callVi (n := 3) [.int _, .int _, .int _] (C := RX4) (ci := 2) (qc := (RX4, TX4, 12)) (fsF := fl2 G _) ob_0.1 (fun _ => en2 ob_0.2) rfl rfl dL_law_1161 (s4_lots h) (gV tbl kM_RL_168_X4_lots kI_X4_lots kS_X4_lots kN_RX4 kC_X4_lots) rfl (by decide +kernel) ⟨Nat.le_of_ble_eq_true rfl, Nat.le_of_ble_eq_true rfl⟩ rfl rfl (Nat.le_of_ble_eq_true rfl) ⟨Nat.le_of_ble_eq_true rfl, Nat.le_of_ble_eq_true rfl⟩ (fun r M h => ?_)
                                                                                  refine a_aload_n dL_law_1164 2 rfl ?_
                                                                                  refine a_aload_n dL_law_1165 0 rfl ?_
                                                                                  refine a_iload_n dL_law_1166 3 rfl ?_
                                                                                  refine a_iconst (v := 1) dL_law_1167 (by decide) ?_
                                                                                  refine a_iadd dL_law_1168 ?_
                                                                                  refine a_sld dL_law_1169 h.1 ?_
                                                                                  have h := h.2
                                                                                  refine a_aload_n dL_law_1170 0 rfl ?_
                                                                                  refine a_iload_n dL_law_1171 3 rfl ?_
                                                                                  refine a_iconst (v := 2) dL_law_1172 (by decide) ?_
                                                                                  refine a_iadd dL_law_1173 ?_
                                                                                  refine a_sld dL_law_1174 h.1 ?_
                                                                                  have h := h.2
                                                                                  refine a_aload_n dL_law_1175 0 rfl ?_
                                                                                  refine a_iload_n dL_law_1176 3 rfl ?_
                                                                                  refine a_iconst (v := 3) dL_law_1177 (by decide) ?_
                                                                                  refine a_iadd dL_law_1178 ?_
                                                                                  refine a_sld dL_law_1179 h.1 ?_
                                                                                  have h := h.2
                                                                                  refine a_callVi (n := 3) [.int _, .int _, .int _] (C := RX5) (ci := 3) (qc := (RX5, TX5, 40)) (fsF := fl3 G _) ob_62.1 (fun _ => en3 ob_62.2) rfl rfl dL_law_1180 (s5_lots h) (gV tbl kM_RL_171_X5_lots kI_X5_lots kS_X5_lots kN_RX5 kC_X5_lots) rfl (by decide +kernel) ⟨Nat.le_of_ble_eq_true rfl, Nat.le_of_ble_eq_true rfl⟩ rfl rfl (Nat.le_of_ble_eq_true rfl) ⟨Nat.le_of_ble_eq_true rfl, Nat.le_of_ble_eq_true rfl⟩ (fun r M h => ?_)
                                                                                  refine a_icmp_eq (tgt := 1237) dL_law_1183 (by decide) (fun c => ?_) (fun c => ?_)
                                                                                  · have h := h.1 c
                                                                                    refine a_sub [0, 1, 2, 3] rfl ?_
                                                                                    exact sL_c1237 ih _ _ h
                                                                                  · have h := h.2 c
                                                                                    refine a_iconst (v := 0) dL_law_1186 (by decide) ?_
                                                                                    exact h.elim
                                                                                · refine em_c h (fun c38 h => ?_) (fun c38 h => ?_)
                                                                                  · refine a_tableIn (off := 1156) (tgt := 1188) dL_law_32 (by rw [c38]; decide) (by rw [c38]; decide) (by rw [c38]; rfl) (by decide) ?_
                                                                                    refine a_aload_n dL_law_1188 1 rfl ?_
                                                                                    refine a_callVi (n := 0) [] (C := RX4) (ci := 2) (qc := (RX4, TX4, 12)) (fsF := fl2 G _) ob_0.1 (fun _ => en2 ob_0.2) rfl rfl dL_law_1189 (s4_image h) (gV tbl kM_RL_172_X4_image kI_X4_image kS_X4_image kN_RX4 kC_X4_image) rfl (by decide +kernel) ⟨Nat.le_of_ble_eq_true rfl, Nat.le_of_ble_eq_true rfl⟩ rfl rfl (Nat.le_of_ble_eq_true rfl) ⟨Nat.le_of_ble_eq_true rfl, Nat.le_of_ble_eq_true rfl⟩ (fun r M h => ?_)
                                                                                    refine a_aload_n dL_law_1192 2 rfl ?_
                                                                                    refine a_callVi (n := 0) [] (C := RX5) (ci := 3) (qc := (RX5, TX5, 40)) (fsF := fl3 G _) ob_62.1 (fun _ => en3 ob_62.2) rfl rfl dL_law_1193 (s5_image h) (gV tbl kM_RL_175_X5_image kI_X5_image kS_X5_image kN_RX5 kC_X5_image) rfl (by decide +kernel) ⟨Nat.le_of_ble_eq_true rfl, Nat.le_of_ble_eq_true rfl⟩ rfl rfl (Nat.le_of_ble_eq_true rfl) ⟨Nat.le_of_ble_eq_true rfl, Nat.le_of_ble_eq_true rfl⟩ (fun r M h => ?_)
                                                                                    refine a_icmp_eq (tgt := 1237) dL_law_1196 (by decide) (fun c => ?_) (fun c => ?_)
                                                                                    · have h := h.1 c
                                                                                      refine a_sub [0, 1, 2, 3] rfl ?_
                                                                                      exact sL_c1237 ih _ _ h
                                                                                    · have h := h.2 c
                                                                                      refine a_iconst (v := 0) dL_law_1199 (by decide) ?_
                                                                                      exact h.elim
                                                                                  · refine em_c h (fun c39 h => ?_) (fun c39 h => ?_)
                                                                                    · refine a_tableIn (off := 1169) (tgt := 1201) dL_law_32 (by rw [c39]; decide) (by rw [c39]; decide) (by rw [c39]; rfl) (by decide) ?_
                                                                                      refine a_aload_n dL_law_1201 1 rfl ?_
                                                                                      refine a_callVi (n := 0) [] (C := RX4) (ci := 2) (qc := (RX4, TX4, 12)) (fsF := fl2 G _) ob_0.1 (fun _ => en2 ob_0.2) rfl rfl dL_law_1202 (s4_restore h) (gV tbl kM_RL_176_X4_restore kI_X4_restore kS_X4_restore kN_RX4 kC_X4_restore) rfl (by decide +kernel) ⟨Nat.le_of_ble_eq_true rfl, Nat.le_of_ble_eq_true rfl⟩ rfl rfl (Nat.le_of_ble_eq_true rfl) ⟨Nat.le_of_ble_eq_true rfl, Nat.le_of_ble_eq_true rfl⟩ (fun r M h => ?_)
                                                                                      refine a_aload_n dL_law_1205 2 rfl ?_
                                                                                      refine a_callVi (n := 0) [] (C := RX5) (ci := 3) (qc := (RX5, TX5, 40)) (fsF := fl3 G _) ob_62.1 (fun _ => en3 ob_62.2) rfl rfl dL_law_1206 (s5_restore h) (gV tbl kM_RL_179_X5_restore kI_X5_restore kS_X5_restore kN_RX5 kC_X5_restore) rfl (by decide +kernel) ⟨Nat.le_of_ble_eq_true rfl, Nat.le_of_ble_eq_true rfl⟩ rfl rfl (Nat.le_of_ble_eq_true rfl) ⟨Nat.le_of_ble_eq_true rfl, Nat.le_of_ble_eq_true rfl⟩ (fun r M h => ?_)
                                                                                      refine a_icmp_eq (tgt := 1237) dL_law_1209 (by decide) (fun c => ?_) (fun c => ?_)
                                                                                      · have h := h.1 c
                                                                                        refine a_sub [0, 1, 2, 3] rfl ?_
                                                                                        exact sL_c1237 ih _ _ h
                                                                                      · have h := h.2 c
                                                                                        refine a_iconst (v := 0) dL_law_1212 (by decide) ?_
                                                                                        exact h.elim
                                                                                    · refine em_c h (fun c40 h => ?_) (fun c40 h => ?_)
                                                                                      · refine a_tableIn (off := 1182) (tgt := 1214) dL_law_32 (by rw [c40]; decide) (by rw [c40]; decide) (by rw [c40]; rfl) (by decide) ?_
                                                                                        refine a_aload_n dL_law_1214 1 rfl ?_
                                                                                        refine a_aload_n dL_law_1215 0 rfl ?_
                                                                                        refine a_iload_n dL_law_1216 3 rfl ?_
                                                                                        refine a_iconst (v := 1) dL_law_1217 (by decide) ?_
                                                                                        refine a_iadd dL_law_1218 ?_
                                                                                        refine a_sld dL_law_1219 h.1 ?_
                                                                                        have h := h.2
                                                                                        refine a_callVi (n := 1) [.int _] (C := RX4) (ci := 2) (qc := (RX4, TX4, 12)) (fsF := fl2 G _) ob_0.1 (fun _ => en2 ob_0.2) rfl rfl dL_law_1220 (s4_count h) (gV tbl kM_RL_180_X4_count kI_X4_count kS_X4_count kN_RX4 kC_X4_count) rfl (by decide +kernel) ⟨Nat.le_of_ble_eq_true rfl, Nat.le_of_ble_eq_true rfl⟩ rfl rfl (Nat.le_of_ble_eq_true rfl) ⟨Nat.le_of_ble_eq_true rfl, Nat.le_of_ble_eq_true rfl⟩ (fun r M h => ?_)
                                                                                        refine a_aload_n dL_law_1223 2 rfl ?_
                                                                                        refine a_aload_n dL_law_1224 0 rfl ?_
                                                                                        refine a_iload_n dL_law_1225 3 rfl ?_
                                                                                        refine a_iconst (v := 1) dL_law_1226 (by decide) ?_
                                                                                        refine a_iadd dL_law_1227 ?_
                                                                                        refine a_sld dL_law_1228 h.1 ?_
                                                                                        have h := h.2
                                                                                        refine a_callVi (n := 1) [.int _] (C := RX5) (ci := 3) (qc := (RX5, TX5, 40)) (fsF := fl3 G _) ob_62.1 (fun _ => en3 ob_62.2) rfl rfl dL_law_1229 (s5_count h) (gV tbl kM_RL_183_X5_count kI_X5_count kS_X5_count kN_RX5 kC_X5_count) rfl (by decide +kernel) ⟨Nat.le_of_ble_eq_true rfl, Nat.le_of_ble_eq_true rfl⟩ rfl rfl (Nat.le_of_ble_eq_true rfl) ⟨Nat.le_of_ble_eq_true rfl, Nat.le_of_ble_eq_true rfl⟩ (fun r M h => ?_)
                                                                                        refine a_icmp_eq (tgt := 1237) dL_law_1232 (by decide) (fun c => ?_) (fun c => ?_)
                                                                                        · have h := h.1 c
                                                                                          refine a_sub [0, 1, 2, 3] rfl ?_
                                                                                          exact sL_c1237 ih _ _ h
                                                                                        · have h := h.2 c
                                                                                          refine a_iconst (v := 0) dL_law_1235 (by decide) ?_
                                                                                          exact h.elim
                                                                                      · refine a_tableD (tgt := 1237) dL_law_32 (by decide) (fun k h1 h2 e => by have hk : k = 0 ∨ k = 1 ∨ k = 2 ∨ k = 3 ∨ k = 4 ∨ k = 5 ∨ k = 6 ∨ k = 7 ∨ k = 8 ∨ k = 9 ∨ k = 10 ∨ k = 11 ∨ k = 12 ∨ k = 13 ∨ k = 14 ∨ k = 15 ∨ k = 16 ∨ k = 17 ∨ k = 18 ∨ k = 19 ∨ k = 20 ∨ k = 21 ∨ k = 22 ∨ k = 23 ∨ k = 24 ∨ k = 25 ∨ k = 26 ∨ k = 27 ∨ k = 28 ∨ k = 29 ∨ k = 30 ∨ k = 31 ∨ k = 32 ∨ k = 33 ∨ k = 34 ∨ k = 35 ∨ k = 36 ∨ k = 37 ∨ k = 38 ∨ k = 39 ∨ k = 40 := (by omega); rcases hk with rfl | rfl | rfl | rfl | rfl | rfl | rfl | rfl | rfl | rfl | rfl | rfl | rfl | rfl | rfl | rfl | rfl | rfl | rfl | rfl | rfl | rfl | rfl | rfl | rfl | rfl | rfl | rfl | rfl | rfl | rfl | rfl | rfl | rfl | rfl | rfl | rfl | rfl | rfl | rfl | rfl <;> first | rfl | exact absurd e (ne_ti c0 (by decide)) | exact absurd e (ne_ti c1 (by decide)) | exact absurd e (ne_ti c2 (by decide)) | exact absurd e (ne_ti c3 (by decide)) | exact absurd e (ne_ti c4 (by decide)) | exact absurd e (ne_ti c5 (by decide)) | exact absurd e (ne_ti c6 (by decide)) | exact absurd e (ne_ti c7 (by decide)) | exact absurd e (ne_ti c8 (by decide)) | exact absurd e (ne_ti c9 (by decide)) | exact absurd e (ne_ti c10 (by decide)) | exact absurd e (ne_ti c11 (by decide)) | exact absurd e (ne_ti c12 (by decide)) | exact absurd e (ne_ti c13 (by decide)) | exact absurd e (ne_ti c14 (by decide)) | exact absurd e (ne_ti c15 (by decide)) | exact absurd e (ne_ti c16 (by decide)) | exact absurd e (ne_ti c17 (by decide)) | exact absurd e (ne_ti c18 (by decide)) | exact absurd e (ne_ti c19 (by decide)) | exact absurd e (ne_ti c20 (by decide)) | exact absurd e (ne_ti c21 (by decide)) | exact absurd e (ne_ti c22 (by decide)) | exact absurd e (ne_ti c23 (by decide)) | exact absurd e (ne_ti c24 (by decide)) | exact absurd e (ne_ti c25 (by decide)) | exact absurd e (ne_ti c26 (by decide)) | exact absurd e (ne_ti c27 (by decide)) | exact absurd e (ne_ti c28 (by decide)) | exact absurd e (ne_ti c29 (by decide)) | exact absurd e (ne_ti c30 (by decide)) | exact absurd e (ne_ti c31 (by decide)) | exact absurd e (ne_ti c32 (by decide)) | exact absurd e (ne_ti c33 (by decide)) | exact absurd e (ne_ti c34 (by decide)) | exact absurd e (ne_ti c35 (by decide)) | exact absurd e (ne_ti c36 (by decide)) | exact absurd e (ne_ti c37 (by decide)) | exact absurd e (ne_ti c38 (by decide)) | exact absurd e (ne_ti c39 (by decide)) | exact absurd e (ne_ti c40 (by decide))) ?_
                                                                                        refine a_sub [0, 1, 2, 3] rfl ?_
                                                                                        exact sL_c1237 ih _ _ h
