theorem kG_RX5_7 : Cond.fieldLink RX5 7 RX5 (TX5 1).2.1 (TX5 1).2.2.1 ∈ TB := tb_of 715 (by decide +kernel) rfl
theorem kG_RX5_13 : Cond.fieldLink RX5 13 RX5 (TX5 2).2.1 (TX5 2).2.2.1 ∈ TB := tb_of 716 (by decide +kernel) rfl
theorem kG_RX5_16 : Cond.fieldLink RX5 16 RX5 (TX5 3).2.1 (TX5 3).2.2.1 ∈ TB := tb_of 717 (by decide +kernel) rfl
theorem kG_RX5_19 : Cond.fieldLink RX5 19 RX5 (TX5 4).2.1 (TX5 4).2.2.1 ∈ TB := tb_of 718 (by decide +kernel) rfl
theorem kG_RX5_22 : Cond.fieldLink RX5 22 RX5 (TX5 5).2.1 (TX5 5).2.2.1 ∈ TB := tb_of 719 (by decide +kernel) rfl
theorem kG_RX5_25 : Cond.fieldLink RX5 25 RX5 (TX5 10).2.1 (TX5 10).2.2.1 ∈ TB := tb_of 724 (by decide +kernel) rfl
theorem kG_RX5_28 : Cond.fieldLink RX5 28 RX5 (TX5 11).2.1 (TX5 11).2.2.1 ∈ TB := tb_of 725 (by decide +kernel) rfl
theorem kG_RX5_31 : Cond.fieldLink RX5 31 RX5 (TX5 13).2.1 (TX5 13).2.2.1 ∈ TB := tb_of 727 (by decide +kernel) rfl
theorem kG_RX5_34 : Cond.fieldLink RX5 34 RX5 (TX5 16).2.1 (TX5 16).2.2.1 ∈ TB := tb_of 730 (by decide +kernel) rfl
theorem kG_RX5_37 : Cond.fieldLink RX5 37 RX5 (TX5 21).2.1 (TX5 21).2.2.1 ∈ TB := tb_of 735 (by decide +kernel) rfl
theorem kG_RX5_40 : Cond.fieldLink RX5 40 RX5 (TX5 22).2.1 (TX5 22).2.2.1 ∈ TB := tb_of 736 (by decide +kernel) rfl
theorem kG_RX5_43 : Cond.fieldLink RX5 43 RX5 (TX5 23).2.1 (TX5 23).2.2.1 ∈ TB := tb_of 737 (by decide +kernel) rfl
theorem kG_RX5_46 : Cond.fieldLink RX5 46 RX5 (TX5 24).2.1 (TX5 24).2.2.1 ∈ TB := tb_of 738 (by decide +kernel) rfl
theorem kG_RX5_49 : Cond.fieldLink RX5 49 RX5 (TX5 25).2.1 (TX5 25).2.2.1 ∈ TB := tb_of 739 (by decide +kernel) rfl
theorem kG_RX5_52 : Cond.fieldLink RX5 52 RX5 (TX5 30).2.1 (TX5 30).2.2.1 ∈ TB := tb_of 744 (by decide +kernel) rfl
theorem kG_RX5_55 : Cond.fieldLink RX5 55 RX5 (TX5 31).2.1 (TX5 31).2.2.1 ∈ TB := tb_of 745 (by decide +kernel) rfl
theorem kG_RX5_58 : Cond.fieldLink RX5 58 RX5 (TX5 33).2.1 (TX5 33).2.2.1 ∈ TB := tb_of 747 (by decide +kernel) rfl
theorem kG_RX5_61 : Cond.fieldLink RX5 61 RX5 (TX5 34).2.1 (TX5 34).2.2.1 ∈ TB := tb_of 748 (by decide +kernel) rfl
theorem kG_RX5_64 : Cond.fieldLink RX5 64 RX5 (TX5 35).2.1 (TX5 35).2.2.1 ∈ TB := tb_of 749 (by decide +kernel) rfl
theorem kG_RX5_67 : Cond.fieldLink RX5 67 RX5 (TX5 37).2.1 (TX5 37).2.2.1 ∈ TB := tb_of 751 (by decide +kernel) rfl
theorem kG_RX5_70 : Cond.fieldLink RX5 70 RX5 (TX5 38).2.1 (TX5 38).2.2.1 ∈ TB := tb_of 752 (by decide +kernel) rfl
theorem kG_RX5_73 : Cond.fieldLink RX5 73 RX5 (TX5 9).2.1 (TX5 9).2.2.1 ∈ TB := tb_of 723 (by decide +kernel) rfl
def p5_init (G : GG) (h0 : Nat) (X w : va_W) : Prop := ∃ q1 q2 q3 q4 q5 q6 q7 q8 q9 q10 q11 q12 q13 q14 q15 q16 q17 q18 q19 q20 q21 : Nat, w = (h0, .inr (3, [.int 0, .ref q1, .ref q2, .ref q3, .ref q4, .ref q5, .int 0, .int 0, .int 0, .int 0, .ref q6, .ref q7, .int 0, .ref q8, .int 0, .int 0, .ref q9, .int 0, .int 0, .int 0, .int 0, .ref q10, .ref q11, .ref q12, .ref q13, .ref q14, .int 0, .int 0, .int 0, .null, .ref q15, .ref q16, .int 0, .ref q17, .ref q18, .ref q19, .int 0, .ref q20, .ref q21, .int 0])) :: (X ++ [(q1, zA G 10), (q2, zA G 10), (q3, zA G 10), (q4, zA G 10), (q5, zA G 10), (q6, zA G 7), (q7, zA G 25), (q8, zA G 25), (q9, zA G 96), (q10, zA G 49), (q11, zA G 49), (q12, zA G 147), (q13, zA G 44), (q14, zA G 44), (q15, zA G 352), (q16, zA G 44), (q17, zA G 25), (q18, zA G 2304), (q19, zA G 12), (q20, zA G 4), (q21, zA G 4)])
set_option maxHeartbeats 4000000 in
set_option maxRecDepth 100000 in
theorem s5_init {G : GG} {h0 : Nat} {X : va_W} : CB G yX5_init (WY yX5_init cX5_init 1 none) 1 12 21 3281 [.ref h0] ((h0, .inr (3, df3)) :: X) (p5_init G h0 X) := by
  refine CB.of (cc := cX5_init) (nL := 1) (own := RX5) (by decide +kernel) rfl rfl rfl (Nat.le_of_ble_eq_true rfl) ?_
  show BW G EI (CZ G (p5_init G h0 X) 21 3281) (WY yX5_init cX5_init 1 none) RX5 cX5_init 1 none ({ frames := 1, cells := 21, slots := 3281, locals := 12 } : Room) 0 0 0 [(0, .ref h0)] [] ((h0, .inr (3, df3)) :: X)
  refine b_aload_n dX5_init_0 0 rfl ?_
  refine b_obj dX5_init_1 (tbc _ kM_RX5_obj) (tbc _ kI_obj) (tbc _ kC_obj) (Nat.le_of_ble_eq_true rfl) (Nat.le_of_ble_eq_true rfl) ?_
  refine b_aload_n dX5_init_4 0 rfl ?_
  refine b_bipush (v := 10) dX5_init_5 (by decide) ?_
  refine b_newa (N := 10) dX5_init_7 (tbc _ kA_int) (by decide) (by decide) (by decide) (Nat.le_of_ble_eq_true rfl) (Nat.le_of_ble_eq_true rfl) (fun q1 => ?_)
  refine b_putF3 dX5_init_9 0 1 (by decide) (tbc _ kG_RX5_7) (fun w h => tbc _ (uW3 w h)) rfl rfl rfl rfl rfl rfl (Nat.le_of_ble_eq_true rfl) (fun _ _ _ h => h) ?_
  refine b_ws ((h0, .inr (3, [.int 0, .ref q1, .null, .null, .null, .null, .int 0, .int 0, .int 0, .int 0, .null, .null, .int 0, .null, .int 0, .int 0, .null, .int 0, .int 0, .int 0, .int 0, .null, .null, .null, .null, .null, .int 0, .int 0, .int 0, .null, .null, .null, .int 0, .null, .null, .null, .int 0, .null, .null, .int 0])) :: _) rfl ?_
  refine b_aload_n dX5_init_12 0 rfl ?_
  refine b_bipush (v := 10) dX5_init_13 (by decide) ?_
  refine b_newa (N := 10) dX5_init_15 (tbc _ kA_int) (by decide) (by decide) (by decide) (Nat.le_of_ble_eq_true rfl) (Nat.le_of_ble_eq_true rfl) (fun q2 => ?_)
  refine b_putF3 dX5_init_17 0 2 (by decide) (tbc _ kG_RX5_13) (fun w h => tbc _ (uW3 w h)) rfl rfl rfl rfl rfl rfl (Nat.le_of_ble_eq_true rfl) (fun _ _ _ h => h) ?_
  refine b_ws ((h0, .inr (3, [.int 0, .ref q1, .ref q2, .null, .null, .null, .int 0, .int 0, .int 0, .int 0, .null, .null, .int 0, .null, .int 0, .int 0, .null, .int 0, .int 0, .int 0, .int 0, .null, .null, .null, .null, .null, .int 0, .int 0, .int 0, .null, .null, .null, .int 0, .null, .null, .null, .int 0, .null, .null, .int 0])) :: _) rfl ?_
  refine b_aload_n dX5_init_20 0 rfl ?_
  refine b_bipush (v := 10) dX5_init_21 (by decide) ?_
  refine b_newa (N := 10) dX5_init_23 (tbc _ kA_int) (by decide) (by decide) (by decide) (Nat.le_of_ble_eq_true rfl) (Nat.le_of_ble_eq_true rfl) (fun q3 => ?_)
  refine b_putF3 dX5_init_25 0 3 (by decide) (tbc _ kG_RX5_16) (fun w h => tbc _ (uW3 w h)) rfl rfl rfl rfl rfl rfl (Nat.le_of_ble_eq_true rfl) (fun _ _ _ h => h) ?_
  refine b_ws ((h0, .inr (3, [.int 0, .ref q1, .ref q2, .ref q3, .null, .null, .int 0, .int 0, .int 0, .int 0, .null, .null, .int 0, .null, .int 0, .int 0, .null, .int 0, .int 0, .int 0, .int 0, .null, .null, .null, .null, .null, .int 0, .int 0, .int 0, .null, .null, .null, .int 0, .null, .null, .null, .int 0, .null, .null, .int 0])) :: _) rfl ?_
  refine b_aload_n dX5_init_28 0 rfl ?_
  refine b_bipush (v := 10) dX5_init_29 (by decide) ?_
  refine b_newa (N := 10) dX5_init_31 (tbc _ kA_int) (by decide) (by decide) (by decide) (Nat.le_of_ble_eq_true rfl) (Nat.le_of_ble_eq_true rfl) (fun q4 => ?_)
  refine b_putF3 dX5_init_33 0 4 (by decide) (tbc _ kG_RX5_19) (fun w h => tbc _ (uW3 w h)) rfl rfl rfl rfl rfl rfl (Nat.le_of_ble_eq_true rfl) (fun _ _ _ h => h) ?_
  refine b_ws ((h0, .inr (3, [.int 0, .ref q1, .ref q2, .ref q3, .ref q4, .null, .int 0, .int 0, .int 0, .int 0, .null, .null, .int 0, .null, .int 0, .int 0, .null, .int 0, .int 0, .int 0, .int 0, .null, .null, .null, .null, .null, .int 0, .int 0, .int 0, .null, .null, .null, .int 0, .null, .null, .null, .int 0, .null, .null, .int 0])) :: _) rfl ?_
  refine b_aload_n dX5_init_36 0 rfl ?_
  refine b_bipush (v := 10) dX5_init_37 (by decide) ?_
  refine b_newa (N := 10) dX5_init_39 (tbc _ kA_int) (by decide) (by decide) (by decide) (Nat.le_of_ble_eq_true rfl) (Nat.le_of_ble_eq_true rfl) (fun q5 => ?_)
  refine b_putF3 dX5_init_41 0 5 (by decide) (tbc _ kG_RX5_22) (fun w h => tbc _ (uW3 w h)) rfl rfl rfl rfl rfl rfl (Nat.le_of_ble_eq_true rfl) (fun _ _ _ h => h) ?_
  refine b_ws ((h0, .inr (3, [.int 0, .ref q1, .ref q2, .ref q3, .ref q4, .ref q5, .int 0, .int 0, .int 0, .int 0, .null, .null, .int 0, .null, .int 0, .int 0, .null, .int 0, .int 0, .int 0, .int 0, .null, .null, .null, .null, .null, .int 0, .int 0, .int 0, .null, .null, .null, .int 0, .null, .null, .null, .int 0, .null, .null, .int 0])) :: _) rfl ?_
  refine b_aload_n dX5_init_44 0 rfl ?_
  refine b_bipush (v := 7) dX5_init_45 (by decide) ?_
  refine b_newa (N := 7) dX5_init_47 (tbc _ kA_int) (by decide) (by decide) (by decide) (Nat.le_of_ble_eq_true rfl) (Nat.le_of_ble_eq_true rfl) (fun q6 => ?_)
  refine b_putF3 dX5_init_49 0 10 (by decide) (tbc _ kG_RX5_25) (fun w h => tbc _ (uW3 w h)) rfl rfl rfl rfl rfl rfl (Nat.le_of_ble_eq_true rfl) (fun _ _ _ h => h) ?_
  refine b_ws ((h0, .inr (3, [.int 0, .ref q1, .ref q2, .ref q3, .ref q4, .ref q5, .int 0, .int 0, .int 0, .int 0, .ref q6, .null, .int 0, .null, .int 0, .int 0, .null, .int 0, .int 0, .int 0, .int 0, .null, .null, .null, .null, .null, .int 0, .int 0, .int 0, .null, .null, .null, .int 0, .null, .null, .null, .int 0, .null, .null, .int 0])) :: _) rfl ?_
  refine b_aload_n dX5_init_52 0 rfl ?_
  refine b_bipush (v := 25) dX5_init_53 (by decide) ?_
  refine b_newa (N := 25) dX5_init_55 (tbc _ kA_int) (by decide) (by decide) (by decide) (Nat.le_of_ble_eq_true rfl) (Nat.le_of_ble_eq_true rfl) (fun q7 => ?_)
  refine b_putF3 dX5_init_57 0 11 (by decide) (tbc _ kG_RX5_28) (fun w h => tbc _ (uW3 w h)) rfl rfl rfl rfl rfl rfl (Nat.le_of_ble_eq_true rfl) (fun _ _ _ h => h) ?_
  refine b_ws ((h0, .inr (3, [.int 0, .ref q1, .ref q2, .ref q3, .ref q4, .ref q5, .int 0, .int 0, .int 0, .int 0, .ref q6, .ref q7, .int 0, .null, .int 0, .int 0, .null, .int 0, .int 0, .int 0, .int 0, .null, .null, .null, .null, .null, .int 0, .int 0, .int 0, .null, .null, .null, .int 0, .null, .null, .null, .int 0, .null, .null, .int 0])) :: _) rfl ?_
  refine b_aload_n dX5_init_60 0 rfl ?_
  refine b_bipush (v := 25) dX5_init_61 (by decide) ?_
  refine b_newa (N := 25) dX5_init_63 (tbc _ kA_int) (by decide) (by decide) (by decide) (Nat.le_of_ble_eq_true rfl) (Nat.le_of_ble_eq_true rfl) (fun q8 => ?_)
  refine b_putF3 dX5_init_65 0 13 (by decide) (tbc _ kG_RX5_31) (fun w h => tbc _ (uW3 w h)) rfl rfl rfl rfl rfl rfl (Nat.le_of_ble_eq_true rfl) (fun _ _ _ h => h) ?_
  refine b_ws ((h0, .inr (3, [.int 0, .ref q1, .ref q2, .ref q3, .ref q4, .ref q5, .int 0, .int 0, .int 0, .int 0, .ref q6, .ref q7, .int 0, .ref q8, .int 0, .int 0, .null, .int 0, .int 0, .int 0, .int 0, .null, .null, .null, .null, .null, .int 0, .int 0, .int 0, .null, .null, .null, .int 0, .null, .null, .null, .int 0, .null, .null, .int 0])) :: _) rfl ?_
  refine b_aload_n dX5_init_68 0 rfl ?_
  refine b_bipush (v := 96) dX5_init_69 (by decide) ?_
  refine b_newa (N := 96) dX5_init_71 (tbc _ kA_int) (by decide) (by decide) (by decide) (Nat.le_of_ble_eq_true rfl) (Nat.le_of_ble_eq_true rfl) (fun q9 => ?_)
  refine b_putF3 dX5_init_73 0 16 (by decide) (tbc _ kG_RX5_34) (fun w h => tbc _ (uW3 w h)) rfl rfl rfl rfl rfl rfl (Nat.le_of_ble_eq_true rfl) (fun _ _ _ h => h) ?_
  refine b_ws ((h0, .inr (3, [.int 0, .ref q1, .ref q2, .ref q3, .ref q4, .ref q5, .int 0, .int 0, .int 0, .int 0, .ref q6, .ref q7, .int 0, .ref q8, .int 0, .int 0, .ref q9, .int 0, .int 0, .int 0, .int 0, .null, .null, .null, .null, .null, .int 0, .int 0, .int 0, .null, .null, .null, .int 0, .null, .null, .null, .int 0, .null, .null, .int 0])) :: _) rfl ?_
  refine b_aload_n dX5_init_76 0 rfl ?_
  refine b_bipush (v := 49) dX5_init_77 (by decide) ?_
  refine b_newa (N := 49) dX5_init_79 (tbc _ kA_int) (by decide) (by decide) (by decide) (Nat.le_of_ble_eq_true rfl) (Nat.le_of_ble_eq_true rfl) (fun q10 => ?_)
  refine b_putF3 dX5_init_81 0 21 (by decide) (tbc _ kG_RX5_37) (fun w h => tbc _ (uW3 w h)) rfl rfl rfl rfl rfl rfl (Nat.le_of_ble_eq_true rfl) (fun _ _ _ h => h) ?_
  refine b_ws ((h0, .inr (3, [.int 0, .ref q1, .ref q2, .ref q3, .ref q4, .ref q5, .int 0, .int 0, .int 0, .int 0, .ref q6, .ref q7, .int 0, .ref q8, .int 0, .int 0, .ref q9, .int 0, .int 0, .int 0, .int 0, .ref q10, .null, .null, .null, .null, .int 0, .int 0, .int 0, .null, .null, .null, .int 0, .null, .null, .null, .int 0, .null, .null, .int 0])) :: _) rfl ?_
  refine b_aload_n dX5_init_84 0 rfl ?_
  refine b_bipush (v := 49) dX5_init_85 (by decide) ?_
  refine b_newa (N := 49) dX5_init_87 (tbc _ kA_int) (by decide) (by decide) (by decide) (Nat.le_of_ble_eq_true rfl) (Nat.le_of_ble_eq_true rfl) (fun q11 => ?_)
  refine b_putF3 dX5_init_89 0 22 (by decide) (tbc _ kG_RX5_40) (fun w h => tbc _ (uW3 w h)) rfl rfl rfl rfl rfl rfl (Nat.le_of_ble_eq_true rfl) (fun _ _ _ h => h) ?_
  refine b_ws ((h0, .inr (3, [.int 0, .ref q1, .ref q2, .ref q3, .ref q4, .ref q5, .int 0, .int 0, .int 0, .int 0, .ref q6, .ref q7, .int 0, .ref q8, .int 0, .int 0, .ref q9, .int 0, .int 0, .int 0, .int 0, .ref q10, .ref q11, .null, .null, .null, .int 0, .int 0, .int 0, .null, .null, .null, .int 0, .null, .null, .null, .int 0, .null, .null, .int 0])) :: _) rfl ?_
  refine b_aload_n dX5_init_92 0 rfl ?_
  refine b_sipush (v := 147) dX5_init_93 (by decide) ?_
  refine b_newa (N := 147) dX5_init_96 (tbc _ kA_int) (by decide) (by decide) (by decide) (Nat.le_of_ble_eq_true rfl) (Nat.le_of_ble_eq_true rfl) (fun q12 => ?_)
  refine b_putF3 dX5_init_98 0 23 (by decide) (tbc _ kG_RX5_43) (fun w h => tbc _ (uW3 w h)) rfl rfl rfl rfl rfl rfl (Nat.le_of_ble_eq_true rfl) (fun _ _ _ h => h) ?_
  refine b_ws ((h0, .inr (3, [.int 0, .ref q1, .ref q2, .ref q3, .ref q4, .ref q5, .int 0, .int 0, .int 0, .int 0, .ref q6, .ref q7, .int 0, .ref q8, .int 0, .int 0, .ref q9, .int 0, .int 0, .int 0, .int 0, .ref q10, .ref q11, .ref q12, .null, .null, .int 0, .int 0, .int 0, .null, .null, .null, .int 0, .null, .null, .null, .int 0, .null, .null, .int 0])) :: _) rfl ?_
  refine b_aload_n dX5_init_101 0 rfl ?_
  refine b_bipush (v := 44) dX5_init_102 (by decide) ?_
  refine b_newa (N := 44) dX5_init_104 (tbc _ kA_int) (by decide) (by decide) (by decide) (Nat.le_of_ble_eq_true rfl) (Nat.le_of_ble_eq_true rfl) (fun q13 => ?_)
  refine b_putF3 dX5_init_106 0 24 (by decide) (tbc _ kG_RX5_46) (fun w h => tbc _ (uW3 w h)) rfl rfl rfl rfl rfl rfl (Nat.le_of_ble_eq_true rfl) (fun _ _ _ h => h) ?_
  refine b_ws ((h0, .inr (3, [.int 0, .ref q1, .ref q2, .ref q3, .ref q4, .ref q5, .int 0, .int 0, .int 0, .int 0, .ref q6, .ref q7, .int 0, .ref q8, .int 0, .int 0, .ref q9, .int 0, .int 0, .int 0, .int 0, .ref q10, .ref q11, .ref q12, .ref q13, .null, .int 0, .int 0, .int 0, .null, .null, .null, .int 0, .null, .null, .null, .int 0, .null, .null, .int 0])) :: _) rfl ?_
  refine b_aload_n dX5_init_109 0 rfl ?_
  refine b_bipush (v := 44) dX5_init_110 (by decide) ?_
  refine b_newa (N := 44) dX5_init_112 (tbc _ kA_int) (by decide) (by decide) (by decide) (Nat.le_of_ble_eq_true rfl) (Nat.le_of_ble_eq_true rfl) (fun q14 => ?_)
  refine b_putF3 dX5_init_114 0 25 (by decide) (tbc _ kG_RX5_49) (fun w h => tbc _ (uW3 w h)) rfl rfl rfl rfl rfl rfl (Nat.le_of_ble_eq_true rfl) (fun _ _ _ h => h) ?_
  refine b_ws ((h0, .inr (3, [.int 0, .ref q1, .ref q2, .ref q3, .ref q4, .ref q5, .int 0, .int 0, .int 0, .int 0, .ref q6, .ref q7, .int 0, .ref q8, .int 0, .int 0, .ref q9, .int 0, .int 0, .int 0, .int 0, .ref q10, .ref q11, .ref q12, .ref q13, .ref q14, .int 0, .int 0, .int 0, .null, .null, .null, .int 0, .null, .null, .null, .int 0, .null, .null, .int 0])) :: _) rfl ?_
  refine b_aload_n dX5_init_117 0 rfl ?_
  refine b_sipush (v := 352) dX5_init_118 (by decide) ?_
  refine b_newa (N := 352) dX5_init_121 (tbc _ kA_int) (by decide) (by decide) (by decide) (Nat.le_of_ble_eq_true rfl) (Nat.le_of_ble_eq_true rfl) (fun q15 => ?_)
  refine b_putF3 dX5_init_123 0 30 (by decide) (tbc _ kG_RX5_52) (fun w h => tbc _ (uW3 w h)) rfl rfl rfl rfl rfl rfl (Nat.le_of_ble_eq_true rfl) (fun _ _ _ h => h) ?_
  refine b_ws ((h0, .inr (3, [.int 0, .ref q1, .ref q2, .ref q3, .ref q4, .ref q5, .int 0, .int 0, .int 0, .int 0, .ref q6, .ref q7, .int 0, .ref q8, .int 0, .int 0, .ref q9, .int 0, .int 0, .int 0, .int 0, .ref q10, .ref q11, .ref q12, .ref q13, .ref q14, .int 0, .int 0, .int 0, .null, .ref q15, .null, .int 0, .null, .null, .null, .int 0, .null, .null, .int 0])) :: _) rfl ?_
  refine b_aload_n dX5_init_126 0 rfl ?_
  refine b_bipush (v := 44) dX5_init_127 (by decide) ?_
  refine b_newa (N := 44) dX5_init_129 (tbc _ kA_int) (by decide) (by decide) (by decide) (Nat.le_of_ble_eq_true rfl) (Nat.le_of_ble_eq_true rfl) (fun q16 => ?_)
  refine b_putF3 dX5_init_131 0 31 (by decide) (tbc _ kG_RX5_55) (fun w h => tbc _ (uW3 w h)) rfl rfl rfl rfl rfl rfl (Nat.le_of_ble_eq_true rfl) (fun _ _ _ h => h) ?_
  refine b_ws ((h0, .inr (3, [.int 0, .ref q1, .ref q2, .ref q3, .ref q4, .ref q5, .int 0, .int 0, .int 0, .int 0, .ref q6, .ref q7, .int 0, .ref q8, .int 0, .int 0, .ref q9, .int 0, .int 0, .int 0, .int 0, .ref q10, .ref q11, .ref q12, .ref q13, .ref q14, .int 0, .int 0, .int 0, .null, .ref q15, .ref q16, .int 0, .null, .null, .null, .int 0, .null, .null, .int 0])) :: _) rfl ?_
  refine b_aload_n dX5_init_134 0 rfl ?_
  refine b_bipush (v := 25) dX5_init_135 (by decide) ?_
  refine b_newa (N := 25) dX5_init_137 (tbc _ kA_int) (by decide) (by decide) (by decide) (Nat.le_of_ble_eq_true rfl) (Nat.le_of_ble_eq_true rfl) (fun q17 => ?_)
  refine b_putF3 dX5_init_139 0 33 (by decide) (tbc _ kG_RX5_58) (fun w h => tbc _ (uW3 w h)) rfl rfl rfl rfl rfl rfl (Nat.le_of_ble_eq_true rfl) (fun _ _ _ h => h) ?_
  refine b_ws ((h0, .inr (3, [.int 0, .ref q1, .ref q2, .ref q3, .ref q4, .ref q5, .int 0, .int 0, .int 0, .int 0, .ref q6, .ref q7, .int 0, .ref q8, .int 0, .int 0, .ref q9, .int 0, .int 0, .int 0, .int 0, .ref q10, .ref q11, .ref q12, .ref q13, .ref q14, .int 0, .int 0, .int 0, .null, .ref q15, .ref q16, .int 0, .ref q17, .null, .null, .int 0, .null, .null, .int 0])) :: _) rfl ?_
  refine b_aload_n dX5_init_142 0 rfl ?_
  refine b_sipush (v := 2304) dX5_init_143 (by decide) ?_
  refine b_newa (N := 2304) dX5_init_146 (tbc _ kA_int) (by decide) (by decide) (by decide) (Nat.le_of_ble_eq_true rfl) (Nat.le_of_ble_eq_true rfl) (fun q18 => ?_)
  refine b_putF3 dX5_init_148 0 34 (by decide) (tbc _ kG_RX5_61) (fun w h => tbc _ (uW3 w h)) rfl rfl rfl rfl rfl rfl (Nat.le_of_ble_eq_true rfl) (fun _ _ _ h => h) ?_
  refine b_ws ((h0, .inr (3, [.int 0, .ref q1, .ref q2, .ref q3, .ref q4, .ref q5, .int 0, .int 0, .int 0, .int 0, .ref q6, .ref q7, .int 0, .ref q8, .int 0, .int 0, .ref q9, .int 0, .int 0, .int 0, .int 0, .ref q10, .ref q11, .ref q12, .ref q13, .ref q14, .int 0, .int 0, .int 0, .null, .ref q15, .ref q16, .int 0, .ref q17, .ref q18, .null, .int 0, .null, .null, .int 0])) :: _) rfl ?_
  refine b_aload_n dX5_init_151 0 rfl ?_
  refine b_bipush (v := 12) dX5_init_152 (by decide) ?_
  refine b_newa (N := 12) dX5_init_154 (tbc _ kA_int) (by decide) (by decide) (by decide) (Nat.le_of_ble_eq_true rfl) (Nat.le_of_ble_eq_true rfl) (fun q19 => ?_)
  refine b_putF3 dX5_init_156 0 35 (by decide) (tbc _ kG_RX5_64) (fun w h => tbc _ (uW3 w h)) rfl rfl rfl rfl rfl rfl (Nat.le_of_ble_eq_true rfl) (fun _ _ _ h => h) ?_
  refine b_ws ((h0, .inr (3, [.int 0, .ref q1, .ref q2, .ref q3, .ref q4, .ref q5, .int 0, .int 0, .int 0, .int 0, .ref q6, .ref q7, .int 0, .ref q8, .int 0, .int 0, .ref q9, .int 0, .int 0, .int 0, .int 0, .ref q10, .ref q11, .ref q12, .ref q13, .ref q14, .int 0, .int 0, .int 0, .null, .ref q15, .ref q16, .int 0, .ref q17, .ref q18, .ref q19, .int 0, .null, .null, .int 0])) :: _) rfl ?_
  refine b_aload_n dX5_init_159 0 rfl ?_
  refine b_iconst (v := 4) dX5_init_160 (by decide) ?_
  refine b_newa (N := 4) dX5_init_161 (tbc _ kA_int) (by decide) (by decide) (by decide) (Nat.le_of_ble_eq_true rfl) (Nat.le_of_ble_eq_true rfl) (fun q20 => ?_)
  refine b_putF3 dX5_init_163 0 37 (by decide) (tbc _ kG_RX5_67) (fun w h => tbc _ (uW3 w h)) rfl rfl rfl rfl rfl rfl (Nat.le_of_ble_eq_true rfl) (fun _ _ _ h => h) ?_
  refine b_ws ((h0, .inr (3, [.int 0, .ref q1, .ref q2, .ref q3, .ref q4, .ref q5, .int 0, .int 0, .int 0, .int 0, .ref q6, .ref q7, .int 0, .ref q8, .int 0, .int 0, .ref q9, .int 0, .int 0, .int 0, .int 0, .ref q10, .ref q11, .ref q12, .ref q13, .ref q14, .int 0, .int 0, .int 0, .null, .ref q15, .ref q16, .int 0, .ref q17, .ref q18, .ref q19, .int 0, .ref q20, .null, .int 0])) :: _) rfl ?_
  refine b_aload_n dX5_init_166 0 rfl ?_
  refine b_iconst (v := 4) dX5_init_167 (by decide) ?_
  refine b_newa (N := 4) dX5_init_168 (tbc _ kA_int) (by decide) (by decide) (by decide) (Nat.le_of_ble_eq_true rfl) (Nat.le_of_ble_eq_true rfl) (fun q21 => ?_)
  refine b_putF3 dX5_init_170 0 38 (by decide) (tbc _ kG_RX5_70) (fun w h => tbc _ (uW3 w h)) rfl rfl rfl rfl rfl rfl (Nat.le_of_ble_eq_true rfl) (fun _ _ _ h => h) ?_
  refine b_ws ((h0, .inr (3, [.int 0, .ref q1, .ref q2, .ref q3, .ref q4, .ref q5, .int 0, .int 0, .int 0, .int 0, .ref q6, .ref q7, .int 0, .ref q8, .int 0, .int 0, .ref q9, .int 0, .int 0, .int 0, .int 0, .ref q10, .ref q11, .ref q12, .ref q13, .ref q14, .int 0, .int 0, .int 0, .null, .ref q15, .ref q16, .int 0, .ref q17, .ref q18, .ref q19, .int 0, .ref q20, .ref q21, .int 0])) :: _) rfl ?_
  refine b_aload_n dX5_init_173 0 rfl ?_
  refine b_iconst (v := 0) dX5_init_174 (by decide) ?_
  refine b_put3 dX5_init_175 0 9 (by decide) (tbc _ kG_RX5_73) (fun w h => tbc _ (uW3 w h)) rfl rfl rfl rfl rfl (Nat.le_of_ble_eq_true rfl) ?_
  refine b_vret dX5_init_178 (Nat.le_of_ble_eq_true rfl) (Nat.le_of_ble_eq_true rfl) ⟨q1, q2, q3, q4, q5, q6, q7, q8, q9, q10, q11, q12, q13, q14, q15, q16, q17, q18, q19, q20, q21, ?_⟩
  simp [zA, df3]
