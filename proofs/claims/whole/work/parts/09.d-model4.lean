/-! X5_pays -/
theorem dX5_pays_0 : decode cX5_pays 0 = .ok (.aload_n 0, 1) := by decide +kernel
theorem dX5_pays_1 : decode cX5_pays 1 = .ok (.iconst 0, 1) := by decide +kernel
theorem dX5_pays_2 : decode cX5_pays 2 = .ok (.putfield 73, 3) := by decide +kernel
theorem dX5_pays_5 : decode cX5_pays 5 = .ok (.aload_n 0, 1) := by decide +kernel
theorem dX5_pays_6 : decode cX5_pays 6 = .ok (.invokevirtual 248, 3) := by decide +kernel
theorem dX5_pays_9 : decode cX5_pays 9 = .ok (.aload_n 0, 1) := by decide +kernel
theorem dX5_pays_10 : decode cX5_pays 10 = .ok (.invokevirtual 195, 3) := by decide +kernel
theorem dX5_pays_13 : decode cX5_pays 13 = .ok (.ireturn, 1) := by decide +kernel
abbrev A5_pays (G : GG) (Q : Int32 → MM → Prop) := AW G E0 (MZ G (qI Q)) (WY yX5_pays cX5_pays 1 (some .int)) RX5 cX5_pays 1 (some .int) ({ frames := 3, cells := 0, slots := 0, locals := 65 } : Room) 0 0
def D5_pays (M : MM) (Q : Int32 → MM → Prop) : Prop := (fun M1 : MM => D5_keepTurn M1 (fun (M3 : MM) => D5_payAll M3 (fun (r4 : Int32) (M5 : MM) => Q r4 M5))) (up M 62 9 (0 : Int32))
set_option maxHeartbeats 4000000 in
set_option maxRecDepth 100000 in
theorem s5_pays {G : GG} {M : MM} {Q : Int32 → MM → Prop} (h : D5_pays M Q) : CM G yX5_pays (WY yX5_pays cX5_pays 1 (some .int)) 3 65 [.ref (gA G 62)] M (qI Q) := by
  refine CM.of (cc := cX5_pays) (nL := 1) (ret := (some .int)) (own := RX5) (by decide +kernel) rfl rfl (Nat.le_of_ble_eq_true rfl) ?_
  show A5_pays G Q 0 [(0, .ref (gA G 62))] [] M
  unfold D5_pays at h
  refine a_aload_n dX5_pays_0 0 rfl ?_
  refine a_iconst (v := 0) dX5_pays_1 (by decide) ?_
  refine a_put3 dX5_pays_2 9 (by decide) (tbc _ kF_RX5_73) (fun w h => tbc _ (uW3 w h)) rfl rfl rfl rfl ob_62 fs3_9 ?_
  refine a_aload_n dX5_pays_5 0 rfl ?_
  refine a_callVv (n := 0) [] (C := RX5) (ci := 3) (qc := (RX5, TX5, 40)) (fsF := fl3 G _) ob_62.1 (fun _ => en3 ob_62.2) rfl rfl dX5_pays_6 (s5_keepTurn h) (gV tbc kM_RX5_248_X5_keepTurn kI_X5_keepTurn kS_X5_keepTurn kN_RX5 kC_X5_keepTurn) rfl (by decide +kernel) ⟨Nat.le_of_ble_eq_true rfl, Nat.le_of_ble_eq_true rfl⟩ rfl rfl (Nat.le_of_ble_eq_true rfl) ⟨Nat.le_refl 0, Nat.le_refl 0⟩ (fun M h => ?_)
  refine a_aload_n dX5_pays_9 0 rfl ?_
  refine a_callVi (n := 0) [] (C := RX5) (ci := 3) (qc := (RX5, TX5, 40)) (fsF := fl3 G _) ob_62.1 (fun _ => en3 ob_62.2) rfl rfl dX5_pays_10 (s5_payAll h) (gV tbc kM_RX5_195_X5_payAll kI_X5_payAll kS_X5_payAll kN_RX5 kC_X5_payAll) rfl (by decide +kernel) ⟨Nat.le_of_ble_eq_true rfl, Nat.le_of_ble_eq_true rfl⟩ rfl rfl (Nat.le_of_ble_eq_true rfl) ⟨Nat.le_refl 0, Nat.le_refl 0⟩ (fun r M h => ?_)
  exact a_iret dX5_pays_13 ⟨_, rfl, h⟩

/-! X5_razes -/
theorem dX5_razes_0 : decode cX5_razes 0 = .ok (.aload_n 0, 1) := by decide +kernel
theorem dX5_razes_1 : decode cX5_razes 1 = .ok (.iconst 0, 1) := by decide +kernel
theorem dX5_razes_2 : decode cX5_razes 2 = .ok (.putfield 73, 3) := by decide +kernel
theorem dX5_razes_5 : decode cX5_razes 5 = .ok (.aload_n 0, 1) := by decide +kernel
theorem dX5_razes_6 : decode cX5_razes 6 = .ok (.iload_n 1, 1) := by decide +kernel
theorem dX5_razes_7 : decode cX5_razes 7 = .ok (.invokevirtual 182, 3) := by decide +kernel
theorem dX5_razes_10 : decode cX5_razes 10 = .ok (.ifCond .ne 7, 3) := by decide +kernel
theorem dX5_razes_13 : decode cX5_razes 13 = .ok (.iconst (-1), 1) := by decide +kernel
theorem dX5_razes_14 : decode cX5_razes 14 = .ok (.goto 19, 3) := by decide +kernel
theorem dX5_razes_17 : decode cX5_razes 17 = .ok (.aload_n 0, 1) := by decide +kernel
theorem dX5_razes_18 : decode cX5_razes 18 = .ok (.getfield 22, 3) := by decide +kernel
theorem dX5_razes_21 : decode cX5_razes 21 = .ok (.iload_n 1, 1) := by decide +kernel
theorem dX5_razes_22 : decode cX5_razes 22 = .ok (.iaload, 1) := by decide +kernel
theorem dX5_razes_23 : decode cX5_razes 23 = .ok (.iconst 1, 1) := by decide +kernel
theorem dX5_razes_24 : decode cX5_razes 24 = .ok (.if_icmp .ne 8, 3) := by decide +kernel
theorem dX5_razes_27 : decode cX5_razes 27 = .ok (.bipush (-3), 2) := by decide +kernel
theorem dX5_razes_29 : decode cX5_razes 29 = .ok (.goto 4, 3) := by decide +kernel
theorem dX5_razes_32 : decode cX5_razes 32 = .ok (.iconst 0, 1) := by decide +kernel
theorem dX5_razes_33 : decode cX5_razes 33 = .ok (.istore_n 2, 1) := by decide +kernel
theorem dX5_razes_34 : decode cX5_razes 34 = .ok (.iload_n 2, 1) := by decide +kernel
theorem dX5_razes_35 : decode cX5_razes 35 = .ok (.ifCond .ge 9, 3) := by decide +kernel
theorem dX5_razes_38 : decode cX5_razes 38 = .ok (.aload_n 0, 1) := by decide +kernel
theorem dX5_razes_39 : decode cX5_razes 39 = .ok (.iload_n 2, 1) := by decide +kernel
theorem dX5_razes_40 : decode cX5_razes 40 = .ok (.invokevirtual 149, 3) := by decide +kernel
theorem dX5_razes_43 : decode cX5_razes 43 = .ok (.ireturn, 1) := by decide +kernel
theorem dX5_razes_44 : decode cX5_razes 44 = .ok (.aload_n 0, 1) := by decide +kernel
theorem dX5_razes_45 : decode cX5_razes 45 = .ok (.invokevirtual 248, 3) := by decide +kernel
theorem dX5_razes_48 : decode cX5_razes 48 = .ok (.aload_n 0, 1) := by decide +kernel
theorem dX5_razes_49 : decode cX5_razes 49 = .ok (.getfield 22, 3) := by decide +kernel
theorem dX5_razes_52 : decode cX5_razes 52 = .ok (.iload_n 1, 1) := by decide +kernel
theorem dX5_razes_53 : decode cX5_razes 53 = .ok (.iconst 1, 1) := by decide +kernel
theorem dX5_razes_54 : decode cX5_razes 54 = .ok (.iastore, 1) := by decide +kernel
theorem dX5_razes_55 : decode cX5_razes 55 = .ok (.aload_n 0, 1) := by decide +kernel
theorem dX5_razes_56 : decode cX5_razes 56 = .ok (.invokevirtual 251, 3) := by decide +kernel
theorem dX5_razes_59 : decode cX5_razes 59 = .ok (.invokestatic 254, 3) := by decide +kernel
theorem dX5_razes_62 : decode cX5_razes 62 = .ok (.ireturn, 1) := by decide +kernel
abbrev A5_razes (G : GG) (Q : Int32 → MM → Prop) := AW G E0 (MZ G (qI Q)) (WY yX5_razes cX5_razes 3 (some .int)) RX5 cX5_razes 3 (some .int) ({ frames := 3, cells := 0, slots := 0, locals := 65 } : Room) 0 0
def D5_razes_c33 (Q : Int32 → MM → Prop) (x1 : Int32) (s0 : Int32) (M : MM) : Prop := ((0 ≤ s0 → D5_keepTurn M (fun (M5 : MM) => ib 67 x1 ∧ (fun M6 : MM => D5_standing M6 (fun (r7 : Int32) (M8 : MM) => D5_onesOf r7 M8 (fun (r9 : Int32) (M10 : MM) => Q r9 M10))) (up M5 67 (ix x1) (1 : Int32)))) ∧ (¬ 0 ≤ s0 → D5_refuse s0 M (fun (r11 : Int32) (M12 : MM) => Q r11 M12)))
def D5_razes (x1 : Int32) (M : MM) (Q : Int32 → MM → Prop) : Prop := (fun M1 : MM => D5_isWork x1 M1 (fun (r2 : Int32) (M3 : MM) => ((r2 ≠ 0 → ib 67 x1 ∧ (((M3 67 (ix x1)) ≠ (1 : Int32) → D5_razes_c33 Q x1 (0 : Int32) M3) ∧ ((M3 67 (ix x1)) = (1 : Int32) → D5_razes_c33 Q x1 (-3 : Int32) M3))) ∧ (r2 = 0 → D5_razes_c33 Q x1 (-1 : Int32) M3)))) (up M 62 9 (0 : Int32))
set_option maxHeartbeats 4000000 in
set_option maxRecDepth 100000 in
theorem s5_razes_c33 {G : GG} {Q : Int32 → MM → Prop} : ∀ (x1 : Int32) (s0 : Int32) (M : MM), D5_razes_c33 Q x1 s0 M → A5_razes G Q 33 [(0, .ref (gA G 62)), (1, .int x1)] [.int s0] M := by
  intro x1 s0 M h
  unfold D5_razes_c33 at h
  refine a_istore_n (i := 2) (L' := [(2, .int _), (0, .ref _), (1, .int _)]) dX5_razes_33 rfl (by decide) rfl ?_
  refine a_iload_n dX5_razes_34 0 rfl ?_
  refine a_if_ge (tgt := 44) dX5_razes_35 (by decide) (fun c => ?_) (fun c => ?_)
  · have h := h.1 c
    refine a_aload_n dX5_razes_44 1 rfl ?_
    refine a_callVv (n := 0) [] (C := RX5) (ci := 3) (qc := (RX5, TX5, 40)) (fsF := fl3 G _) ob_62.1 (fun _ => en3 ob_62.2) rfl rfl dX5_razes_45 (s5_keepTurn h) (gV tbc kM_RX5_248_X5_keepTurn kI_X5_keepTurn kS_X5_keepTurn kN_RX5 kC_X5_keepTurn) rfl (by decide +kernel) ⟨Nat.le_of_ble_eq_true rfl, Nat.le_of_ble_eq_true rfl⟩ rfl rfl (Nat.le_of_ble_eq_true rfl) ⟨Nat.le_refl 0, Nat.le_refl 0⟩ (fun M h => ?_)
    refine a_aload_n dX5_razes_48 1 rfl ?_
    refine a_get3 dX5_razes_49 5 (by decide) (tbc _ kF_RX5_22) (fun w h => tbc _ (uW3 w h)) rfl ob_62 rfl ?_
    refine a_iload_n dX5_razes_52 2 rfl ?_
    refine a_iconst (v := 1) dX5_razes_53 (by decide) ?_
    refine a_iast dX5_razes_54 h.1 ?_
    have h := h.2
    refine a_aload_n dX5_razes_55 1 rfl ?_
    refine a_callVi (n := 0) [] (C := RX5) (ci := 3) (qc := (RX5, TX5, 40)) (fsF := fl3 G _) ob_62.1 (fun _ => en3 ob_62.2) rfl rfl dX5_razes_56 (s5_standing h) (gV tbc kM_RX5_251_X5_standing kI_X5_standing kS_X5_standing kN_RX5 kC_X5_standing) rfl (by decide +kernel) ⟨Nat.le_of_ble_eq_true rfl, Nat.le_of_ble_eq_true rfl⟩ rfl rfl (Nat.le_of_ble_eq_true rfl) ⟨Nat.le_refl 0, Nat.le_refl 0⟩ (fun r M h => ?_)
    refine a_callSi (n := 1) [.int _] dX5_razes_59 (s5_onesOf h) (gS tbc kM_RX5_254_X5_onesOf kT_X5_onesOf kN_RX5 kC_X5_onesOf) rfl (by decide +kernel) ⟨Nat.le_of_ble_eq_true rfl, Nat.le_of_ble_eq_true rfl⟩ rfl rfl (Nat.le_of_ble_eq_true rfl) ⟨Nat.le_refl 0, Nat.le_refl 0⟩ (fun r M h => ?_)
    exact a_iret dX5_razes_62 ⟨_, rfl, h⟩
  · have h := h.2 c
    refine a_aload_n dX5_razes_38 1 rfl ?_
    refine a_iload_n dX5_razes_39 0 rfl ?_
    refine a_callVi (n := 1) [.int _] (C := RX5) (ci := 3) (qc := (RX5, TX5, 40)) (fsF := fl3 G _) ob_62.1 (fun _ => en3 ob_62.2) rfl rfl dX5_razes_40 (s5_refuse h) (gV tbc kM_RX5_149_X5_refuse kI_X5_refuse kS_X5_refuse kN_RX5 kC_X5_refuse) rfl (by decide +kernel) ⟨Nat.le_of_ble_eq_true rfl, Nat.le_of_ble_eq_true rfl⟩ rfl rfl (Nat.le_of_ble_eq_true rfl) ⟨Nat.le_refl 0, Nat.le_refl 0⟩ (fun r M h => ?_)
    exact a_iret dX5_razes_43 ⟨_, rfl, h⟩
set_option maxHeartbeats 4000000 in
set_option maxRecDepth 100000 in
theorem s5_razes {G : GG} {x1 : Int32} {M : MM} {Q : Int32 → MM → Prop} (h : D5_razes x1 M Q) : CM G yX5_razes (WY yX5_razes cX5_razes 3 (some .int)) 3 65 [.ref (gA G 62), .int x1] M (qI Q) := by
  refine CM.of (cc := cX5_razes) (nL := 3) (ret := (some .int)) (own := RX5) (by decide +kernel) rfl rfl (Nat.le_of_ble_eq_true rfl) ?_
  show A5_razes G Q 0 [(0, .ref (gA G 62)), (1, .int x1)] [] M
  unfold D5_razes at h
  refine a_aload_n dX5_razes_0 0 rfl ?_
  refine a_iconst (v := 0) dX5_razes_1 (by decide) ?_
  refine a_put3 dX5_razes_2 9 (by decide) (tbc _ kF_RX5_73) (fun w h => tbc _ (uW3 w h)) rfl rfl rfl rfl ob_62 fs3_9 ?_
  refine a_aload_n dX5_razes_5 0 rfl ?_
  refine a_iload_n dX5_razes_6 1 rfl ?_
  refine a_callVi (n := 1) [.int _] (C := RX5) (ci := 3) (qc := (RX5, TX5, 40)) (fsF := fl3 G _) ob_62.1 (fun _ => en3 ob_62.2) rfl rfl dX5_razes_7 (s5_isWork h) (gV tbc kM_RX5_182_X5_isWork kI_X5_isWork kS_X5_isWork kN_RX5 kC_X5_isWork) rfl (by decide +kernel) ⟨Nat.le_of_ble_eq_true rfl, Nat.le_of_ble_eq_true rfl⟩ rfl rfl (Nat.le_of_ble_eq_true rfl) ⟨Nat.le_refl 0, Nat.le_refl 0⟩ (fun r M h => ?_)
  refine a_if_ne (tgt := 17) dX5_razes_10 (by decide) (fun c => ?_) (fun c => ?_)
  · have h := h.1 c
    refine a_aload_n dX5_razes_17 0 rfl ?_
    refine a_get3 dX5_razes_18 5 (by decide) (tbc _ kF_RX5_22) (fun w h => tbc _ (uW3 w h)) rfl ob_62 rfl ?_
    refine a_iload_n dX5_razes_21 1 rfl ?_
    refine a_iald dX5_razes_22 h.1 ?_
    have h := h.2
    refine a_iconst (v := 1) dX5_razes_23 (by decide) ?_
    refine a_icmp_ne (tgt := 32) dX5_razes_24 (by decide) (fun c => ?_) (fun c => ?_)
    · have h := h.1 c
      refine a_iconst (v := 0) dX5_razes_32 (by decide) ?_
      refine a_sub [0, 1] rfl ?_
      exact s5_razes_c33 _ _ _ h
    · have h := h.2 c
      refine a_bipush (v := -3) dX5_razes_27 (by decide) ?_
      refine a_goto (tgt := 33) dX5_razes_29 (by decide) ?_
      refine a_sub [0, 1] rfl ?_
      exact s5_razes_c33 _ _ _ h
  · have h := h.2 c
    refine a_iconst (v := -1) dX5_razes_13 (by decide) ?_
    refine a_goto (tgt := 33) dX5_razes_14 (by decide) ?_
    refine a_sub [0, 1] rfl ?_
    exact s5_razes_c33 _ _ _ h

/-! X5_restore -/
theorem dX5_restore_0 : decode cX5_restore 0 = .ok (.aload_n 0, 1) := by decide +kernel
theorem dX5_restore_1 : decode cX5_restore 1 = .ok (.iconst 0, 1) := by decide +kernel
theorem dX5_restore_2 : decode cX5_restore 2 = .ok (.putfield 73, 3) := by decide +kernel
theorem dX5_restore_5 : decode cX5_restore 5 = .ok (.aload_n 0, 1) := by decide +kernel
theorem dX5_restore_6 : decode cX5_restore 6 = .ok (.getfield 237, 3) := by decide +kernel
theorem dX5_restore_9 : decode cX5_restore 9 = .ok (.ifCond .ne 10, 3) := by decide +kernel
theorem dX5_restore_12 : decode cX5_restore 12 = .ok (.aload_n 0, 1) := by decide +kernel
theorem dX5_restore_13 : decode cX5_restore 13 = .ok (.bipush (-3), 2) := by decide +kernel
theorem dX5_restore_15 : decode cX5_restore 15 = .ok (.invokevirtual 149, 3) := by decide +kernel
theorem dX5_restore_18 : decode cX5_restore 18 = .ok (.ireturn, 1) := by decide +kernel
theorem dX5_restore_19 : decode cX5_restore 19 = .ok (.aload_n 0, 1) := by decide +kernel
theorem dX5_restore_20 : decode cX5_restore 20 = .ok (.aload_n 0, 1) := by decide +kernel
theorem dX5_restore_21 : decode cX5_restore 21 = .ok (.getfield 49, 3) := by decide +kernel
theorem dX5_restore_24 : decode cX5_restore 24 = .ok (.iconst 0, 1) := by decide +kernel
theorem dX5_restore_25 : decode cX5_restore 25 = .ok (.invokevirtual 233, 3) := by decide +kernel
theorem dX5_restore_28 : decode cX5_restore 28 = .ok (.aload_n 0, 1) := by decide +kernel
theorem dX5_restore_29 : decode cX5_restore 29 = .ok (.iconst 0, 1) := by decide +kernel
theorem dX5_restore_30 : decode cX5_restore 30 = .ok (.putfield 218, 3) := by decide +kernel
theorem dX5_restore_33 : decode cX5_restore 33 = .ok (.aload_n 0, 1) := by decide +kernel
theorem dX5_restore_34 : decode cX5_restore 34 = .ok (.getfield 114, 3) := by decide +kernel
theorem dX5_restore_37 : decode cX5_restore 37 = .ok (.ireturn, 1) := by decide +kernel
abbrev A5_restore (G : GG) (Q : Int32 → MM → Prop) := AW G E0 (MZ G (qI Q)) (WY yX5_restore cX5_restore 1 (some .int)) RX5 cX5_restore 1 (some .int) ({ frames := 2, cells := 0, slots := 0, locals := 44 } : Room) 0 0
def D5_restore (M : MM) (Q : Int32 → MM → Prop) : Prop := (fun M1 : MM => (((M1 62 26) ≠ 0 → D5_carryAll 76 (0 : Int32) M1 (fun (M3 : MM) => (fun M4 : MM => Q (M4 62 8) M4) (up M3 62 32 (0 : Int32)))) ∧ ((M1 62 26) = 0 → D5_refuse (-3 : Int32) M1 (fun (r5 : Int32) (M6 : MM) => Q r5 M6)))) (up M 62 9 (0 : Int32))
set_option maxHeartbeats 4000000 in
set_option maxRecDepth 100000 in
theorem s5_restore {G : GG} {M : MM} {Q : Int32 → MM → Prop} (h : D5_restore M Q) : CM G yX5_restore (WY yX5_restore cX5_restore 1 (some .int)) 2 44 [.ref (gA G 62)] M (qI Q) := by
  refine CM.of (cc := cX5_restore) (nL := 1) (ret := (some .int)) (own := RX5) (by decide +kernel) rfl rfl (Nat.le_of_ble_eq_true rfl) ?_
  show A5_restore G Q 0 [(0, .ref (gA G 62))] [] M
  unfold D5_restore at h
  refine a_aload_n dX5_restore_0 0 rfl ?_
  refine a_iconst (v := 0) dX5_restore_1 (by decide) ?_
  refine a_put3 dX5_restore_2 9 (by decide) (tbc _ kF_RX5_73) (fun w h => tbc _ (uW3 w h)) rfl rfl rfl rfl ob_62 fs3_9 ?_
  refine a_aload_n dX5_restore_5 0 rfl ?_
  refine a_get3 dX5_restore_6 26 (by decide) (tbc _ kF_RX5_237) (fun w h => tbc _ (uW3 w h)) rfl ob_62 rfl ?_
  refine a_if_ne (tgt := 19) dX5_restore_9 (by decide) (fun c => ?_) (fun c => ?_)
  · have h := h.1 c
    refine a_aload_n dX5_restore_19 0 rfl ?_
    refine a_aload_n dX5_restore_20 0 rfl ?_
    refine a_get3 dX5_restore_21 25 (by decide) (tbc _ kF_RX5_49) (fun w h => tbc _ (uW3 w h)) rfl ob_62 rfl ?_
    refine a_iconst (v := 0) dX5_restore_24 (by decide) ?_
    refine a_callVv (n := 2) [.ref _, .int _] (C := RX5) (ci := 3) (qc := (RX5, TX5, 40)) (fsF := fl3 G _) ob_62.1 (fun _ => en3 ob_62.2) rfl rfl dX5_restore_25 (s5_carryAll h) (gV tbc kM_RX5_233_X5_carryAll kI_X5_carryAll kS_X5_carryAll kN_RX5 kC_X5_carryAll) rfl (by decide +kernel) ⟨Nat.le_of_ble_eq_true rfl, Nat.le_of_ble_eq_true rfl⟩ rfl rfl (Nat.le_of_ble_eq_true rfl) ⟨Nat.le_refl 0, Nat.le_refl 0⟩ (fun M h => ?_)
    refine a_aload_n dX5_restore_28 0 rfl ?_
    refine a_iconst (v := 0) dX5_restore_29 (by decide) ?_
    refine a_put3 dX5_restore_30 32 (by decide) (tbc _ kF_RX5_218) (fun w h => tbc _ (uW3 w h)) rfl rfl rfl rfl ob_62 fs3_32 ?_
    refine a_aload_n dX5_restore_33 0 rfl ?_
    refine a_get3 dX5_restore_34 8 (by decide) (tbc _ kF_RX5_114) (fun w h => tbc _ (uW3 w h)) rfl ob_62 rfl ?_
    exact a_iret dX5_restore_37 ⟨_, rfl, h⟩
  · have h := h.2 c
    refine a_aload_n dX5_restore_12 0 rfl ?_
    refine a_bipush (v := -3) dX5_restore_13 (by decide) ?_
    refine a_callVi (n := 1) [.int _] (C := RX5) (ci := 3) (qc := (RX5, TX5, 40)) (fsF := fl3 G _) ob_62.1 (fun _ => en3 ob_62.2) rfl rfl dX5_restore_15 (s5_refuse h) (gV tbc kM_RX5_149_X5_refuse kI_X5_refuse kS_X5_refuse kN_RX5 kC_X5_refuse) rfl (by decide +kernel) ⟨Nat.le_of_ble_eq_true rfl, Nat.le_of_ble_eq_true rfl⟩ rfl rfl (Nat.le_of_ble_eq_true rfl) ⟨Nat.le_refl 0, Nat.le_refl 0⟩ (fun r M h => ?_)
    exact a_iret dX5_restore_18 ⟨_, rfl, h⟩

/-! X5_round -/
theorem dX5_round_0 : decode cX5_round 0 = .ok (.aload_n 0, 1) := by decide +kernel
theorem dX5_round_1 : decode cX5_round 1 = .ok (.iconst 0, 1) := by decide +kernel
theorem dX5_round_2 : decode cX5_round 2 = .ok (.putfield 73, 3) := by decide +kernel
theorem dX5_round_5 : decode cX5_round 5 = .ok (.iload_n 1, 1) := by decide +kernel
theorem dX5_round_6 : decode cX5_round 6 = .ok (.iconst (-1), 1) := by decide +kernel
theorem dX5_round_7 : decode cX5_round 7 = .ok (.if_icmp .ge 10, 3) := by decide +kernel
theorem dX5_round_10 : decode cX5_round 10 = .ok (.aload_n 0, 1) := by decide +kernel
theorem dX5_round_11 : decode cX5_round 11 = .ok (.bipush (-4), 2) := by decide +kernel
theorem dX5_round_13 : decode cX5_round 13 = .ok (.invokevirtual 149, 3) := by decide +kernel
theorem dX5_round_16 : decode cX5_round 16 = .ok (.ireturn, 1) := by decide +kernel
theorem dX5_round_17 : decode cX5_round 17 = .ok (.aload_n 0, 1) := by decide +kernel
theorem dX5_round_18 : decode cX5_round 18 = .ok (.invokevirtual 286, 3) := by decide +kernel
theorem dX5_round_21 : decode cX5_round 21 = .ok (.aload_n 0, 1) := by decide +kernel
theorem dX5_round_22 : decode cX5_round 22 = .ok (.invokevirtual 251, 3) := by decide +kernel
theorem dX5_round_25 : decode cX5_round 25 = .ok (.istore_n 2, 1) := by decide +kernel
theorem dX5_round_26 : decode cX5_round 26 = .ok (.iload_n 1, 1) := by decide +kernel
theorem dX5_round_27 : decode cX5_round 27 = .ok (.ifCond .ge 16, 3) := by decide +kernel
theorem dX5_round_30 : decode cX5_round 30 = .ok (.aload_n 0, 1) := by decide +kernel
theorem dX5_round_31 : decode cX5_round 31 = .ok (.getfield 61, 3) := by decide +kernel
theorem dX5_round_34 : decode cX5_round 34 = .ok (.bipush 9, 2) := by decide +kernel
theorem dX5_round_36 : decode cX5_round 36 = .ok (.iload_n 2, 1) := by decide +kernel
theorem dX5_round_37 : decode cX5_round 37 = .ok (.imul, 1) := by decide +kernel
theorem dX5_round_38 : decode cX5_round 38 = .ok (.bipush 8, 2) := by decide +kernel
theorem dX5_round_40 : decode cX5_round 40 = .ok (.iadd, 1) := by decide +kernel
theorem dX5_round_41 : decode cX5_round 41 = .ok (.iaload, 1) := by decide +kernel
theorem dX5_round_42 : decode cX5_round 42 = .ok (.ireturn, 1) := by decide +kernel
theorem dX5_round_43 : decode cX5_round 43 = .ok (.iload_n 1, 1) := by decide +kernel
theorem dX5_round_44 : decode cX5_round 44 = .ok (.iload_n 2, 1) := by decide +kernel
theorem dX5_round_45 : decode cX5_round 45 = .ok (.invokestatic 254, 3) := by decide +kernel
theorem dX5_round_48 : decode cX5_round 48 = .ok (.if_icmp .lt 6, 3) := by decide +kernel
theorem dX5_round_51 : decode cX5_round 51 = .ok (.bipush (-9), 2) := by decide +kernel
theorem dX5_round_53 : decode cX5_round 53 = .ok (.ireturn, 1) := by decide +kernel
theorem dX5_round_54 : decode cX5_round 54 = .ok (.bipush 8, 2) := by decide +kernel
theorem dX5_round_56 : decode cX5_round 56 = .ok (.istore_n 3, 1) := by decide +kernel
theorem dX5_round_57 : decode cX5_round 57 = .ok (.iconst 0, 1) := by decide +kernel
theorem dX5_round_58 : decode cX5_round 58 = .ok (.istore 4, 2) := by decide +kernel
theorem dX5_round_60 : decode cX5_round 60 = .ok (.iload 4, 2) := by decide +kernel
theorem dX5_round_62 : decode cX5_round 62 = .ok (.iload_n 1, 1) := by decide +kernel
theorem dX5_round_63 : decode cX5_round 63 = .ok (.if_icmp .gt 22, 3) := by decide +kernel
theorem dX5_round_66 : decode cX5_round 66 = .ok (.aload_n 0, 1) := by decide +kernel
theorem dX5_round_67 : decode cX5_round 67 = .ok (.iload_n 2, 1) := by decide +kernel
theorem dX5_round_68 : decode cX5_round 68 = .ok (.iload_n 3, 1) := by decide +kernel
theorem dX5_round_69 : decode cX5_round 69 = .ok (.invokevirtual 289, 3) := by decide +kernel
theorem dX5_round_72 : decode cX5_round 72 = .ok (.istore_n 3, 1) := by decide +kernel
theorem dX5_round_73 : decode cX5_round 73 = .ok (.iload_n 2, 1) := by decide +kernel
theorem dX5_round_74 : decode cX5_round 74 = .ok (.iconst 1, 1) := by decide +kernel
theorem dX5_round_75 : decode cX5_round 75 = .ok (.iload_n 3, 1) := by decide +kernel
theorem dX5_round_76 : decode cX5_round 76 = .ok (.ishl, 1) := by decide +kernel
theorem dX5_round_77 : decode cX5_round 77 = .ok (.isub, 1) := by decide +kernel
theorem dX5_round_78 : decode cX5_round 78 = .ok (.istore_n 2, 1) := by decide +kernel
theorem dX5_round_79 : decode cX5_round 79 = .ok (.iinc 4 1, 3) := by decide +kernel
theorem dX5_round_82 : decode cX5_round 82 = .ok (.goto (-22), 3) := by decide +kernel
theorem dX5_round_85 : decode cX5_round 85 = .ok (.aload_n 0, 1) := by decide +kernel
theorem dX5_round_86 : decode cX5_round 86 = .ok (.getfield 16, 3) := by decide +kernel
theorem dX5_round_89 : decode cX5_round 89 = .ok (.iload_n 3, 1) := by decide +kernel
theorem dX5_round_90 : decode cX5_round 90 = .ok (.iaload, 1) := by decide +kernel
theorem dX5_round_91 : decode cX5_round 91 = .ok (.ireturn, 1) := by decide +kernel
abbrev A5_round (G : GG) (Q : Int32 → MM → Prop) := AW G E0 (MZ G (qI Q)) (WY yX5_round cX5_round 5 (some .int)) RX5 cX5_round 5 (some .int) ({ frames := 2, cells := 0, slots := 0, locals := 48 } : Room) 0 0
def D5_round_c60 (Q : Int32 → MM → Prop) : Nat → Int32 → Int32 → Int32 → Int32 → MM → Prop
  | 0, _, _, _, _, _ => False
  | n + 1, x1, x2, x3, x4, M => ((x1 < x4 → ib 65 x3 ∧ Q (M 65 (ix x3)) M) ∧ (¬ x1 < x4 → D5_nextOn x2 x3 M (fun (r10 : Int32) (M11 : MM) => (fun v12 : Int32 => (fun v13 : Int32 => D5_round_c60 Q n x1 v12 r10 v13 M11) (x4 + (1 : Int32))) (x2 - ((1 : Int32) <<< (r10 &&& 31))))))
def D5_round (x1 : Int32) (M : MM) (Q : Int32 → MM → Prop) : Prop := (fun M1 : MM => (((-1 : Int32) ≤ x1 → D5_layRound M1 (fun (M3 : MM) => D5_standing M3 (fun (r4 : Int32) (M5 : MM) => ((0 ≤ x1 → D5_onesOf r4 M5 (fun (r6 : Int32) (M7 : MM) => ((x1 < r6 → D5_round_c60 Q FU x1 r4 (8 : Int32) (0 : Int32) M7) ∧ (¬ x1 < r6 → Q (-9 : Int32) M7)))) ∧ (¬ 0 ≤ x1 → ib 80 (((9 : Int32) * r4) + (8 : Int32)) ∧ Q (M5 80 (ix (((9 : Int32) * r4) + (8 : Int32)))) M5))))) ∧ (¬ (-1 : Int32) ≤ x1 → D5_refuse (-4 : Int32) M1 (fun (r8 : Int32) (M9 : MM) => Q r8 M9)))) (up M 62 9 (0 : Int32))
set_option maxHeartbeats 4000000 in
set_option maxRecDepth 100000 in
theorem s5_round_c60 {G : GG} {Q : Int32 → MM → Prop} : ∀ (n : Nat) (x1 : Int32) (x2 : Int32) (x3 : Int32) (x4 : Int32) (M : MM), D5_round_c60 Q n x1 x2 x3 x4 M → A5_round G Q 60 [(0, .ref (gA G 62)), (1, .int x1), (2, .int x2), (3, .int x3), (4, .int x4)] [] M := by
  intro n
  induction n with
  | zero => intro x1 x2 x3 x4 M h; exact h.elim
  | succ n ih =>
    intro x1 x2 x3 x4 M h
    unfold D5_round_c60 at h
    refine a_iload dX5_round_60 4 rfl ?_
    refine a_iload_n dX5_round_62 1 rfl ?_
    refine a_icmp_gt (tgt := 85) dX5_round_63 (by decide) (fun c => ?_) (fun c => ?_)
    · have h := h.1 c
      refine a_aload_n dX5_round_85 0 rfl ?_
      refine a_get3 dX5_round_86 3 (by decide) (tbc _ kF_RX5_16) (fun w h => tbc _ (uW3 w h)) rfl ob_62 rfl ?_
      refine a_iload_n dX5_round_89 3 rfl ?_
      refine a_iald dX5_round_90 h.1 ?_
      have h := h.2
      exact a_iret dX5_round_91 ⟨_, rfl, h⟩
    · have h := h.2 c
      refine a_aload_n dX5_round_66 0 rfl ?_
      refine a_iload_n dX5_round_67 2 rfl ?_
      refine a_iload_n dX5_round_68 3 rfl ?_
      refine a_callVi (n := 2) [.int _, .int _] (C := RX5) (ci := 3) (qc := (RX5, TX5, 40)) (fsF := fl3 G _) ob_62.1 (fun _ => en3 ob_62.2) rfl rfl dX5_round_69 (s5_nextOn h) (gV tbc kM_RX5_289_X5_nextOn kI_X5_nextOn kS_X5_nextOn kN_RX5 kC_X5_nextOn) rfl (by decide +kernel) ⟨Nat.le_of_ble_eq_true rfl, Nat.le_of_ble_eq_true rfl⟩ rfl rfl (Nat.le_of_ble_eq_true rfl) ⟨Nat.le_refl 0, Nat.le_refl 0⟩ (fun r M h => ?_)
      refine a_istore_n (i := 3) (L' := [(3, .int _), (0, .ref _), (1, .int _), (2, .int _), (4, .int _)]) dX5_round_72 rfl (by decide) rfl ?_
      refine a_iload_n dX5_round_73 3 rfl ?_
      refine a_iconst (v := 1) dX5_round_74 (by decide) ?_
      refine a_iload_n dX5_round_75 0 rfl ?_
      refine a_ishl dX5_round_76 ?_
      refine a_isub dX5_round_77 ?_
      refine a_istore_n (i := 2) (L' := [(2, .int _), (3, .int _), (0, .ref _), (1, .int _), (4, .int _)]) dX5_round_78 rfl (by decide) rfl ?_
      refine a_iinc (L' := [(4, .int _), (2, .int _), (3, .int _), (0, .ref _), (1, .int _)]) dX5_round_79 4 rfl (show _ + Int32.ofInt (1 : Int) = _ + (1 : Int32) from rfl) (by decide) rfl ?_
      refine a_goto (tgt := 60) dX5_round_82 (by decide) ?_
      refine a_sub [3, 4, 1, 2, 0] rfl ?_
      exact ih _ _ _ _ _ h
set_option maxHeartbeats 4000000 in
set_option maxRecDepth 100000 in
theorem s5_round {G : GG} {x1 : Int32} {M : MM} {Q : Int32 → MM → Prop} (h : D5_round x1 M Q) : CM G yX5_round (WY yX5_round cX5_round 5 (some .int)) 2 48 [.ref (gA G 62), .int x1] M (qI Q) := by
  refine CM.of (cc := cX5_round) (nL := 5) (ret := (some .int)) (own := RX5) (by decide +kernel) rfl rfl (Nat.le_of_ble_eq_true rfl) ?_
  show A5_round G Q 0 [(0, .ref (gA G 62)), (1, .int x1)] [] M
  unfold D5_round at h
  refine a_aload_n dX5_round_0 0 rfl ?_
  refine a_iconst (v := 0) dX5_round_1 (by decide) ?_
  refine a_put3 dX5_round_2 9 (by decide) (tbc _ kF_RX5_73) (fun w h => tbc _ (uW3 w h)) rfl rfl rfl rfl ob_62 fs3_9 ?_
  refine a_iload_n dX5_round_5 1 rfl ?_
  refine a_iconst (v := -1) dX5_round_6 (by decide) ?_
  refine a_icmp_ge (tgt := 17) dX5_round_7 (by decide) (fun c => ?_) (fun c => ?_)
  · have h := h.1 c
    refine a_aload_n dX5_round_17 0 rfl ?_
    refine a_callVv (n := 0) [] (C := RX5) (ci := 3) (qc := (RX5, TX5, 40)) (fsF := fl3 G _) ob_62.1 (fun _ => en3 ob_62.2) rfl rfl dX5_round_18 (s5_layRound h) (gV tbc kM_RX5_286_X5_layRound kI_X5_layRound kS_X5_layRound kN_RX5 kC_X5_layRound) rfl (by decide +kernel) ⟨Nat.le_of_ble_eq_true rfl, Nat.le_of_ble_eq_true rfl⟩ rfl rfl (Nat.le_of_ble_eq_true rfl) ⟨Nat.le_refl 0, Nat.le_refl 0⟩ (fun M h => ?_)
    refine a_aload_n dX5_round_21 0 rfl ?_
    refine a_callVi (n := 0) [] (C := RX5) (ci := 3) (qc := (RX5, TX5, 40)) (fsF := fl3 G _) ob_62.1 (fun _ => en3 ob_62.2) rfl rfl dX5_round_22 (s5_standing h) (gV tbc kM_RX5_251_X5_standing kI_X5_standing kS_X5_standing kN_RX5 kC_X5_standing) rfl (by decide +kernel) ⟨Nat.le_of_ble_eq_true rfl, Nat.le_of_ble_eq_true rfl⟩ rfl rfl (Nat.le_of_ble_eq_true rfl) ⟨Nat.le_refl 0, Nat.le_refl 0⟩ (fun r M h => ?_)
    refine a_istore_n (i := 2) (L' := [(2, .int _), (0, .ref _), (1, .int _)]) dX5_round_25 rfl (by decide) rfl ?_
    refine a_iload_n dX5_round_26 2 rfl ?_
    refine a_if_ge (tgt := 43) dX5_round_27 (by decide) (fun c => ?_) (fun c => ?_)
    · have h := h.1 c
      refine a_iload_n dX5_round_43 2 rfl ?_
      refine a_iload_n dX5_round_44 0 rfl ?_
      refine a_callSi (n := 1) [.int _] dX5_round_45 (s5_onesOf h) (gS tbc kM_RX5_254_X5_onesOf kT_X5_onesOf kN_RX5 kC_X5_onesOf) rfl (by decide +kernel) ⟨Nat.le_of_ble_eq_true rfl, Nat.le_of_ble_eq_true rfl⟩ rfl rfl (Nat.le_of_ble_eq_true rfl) ⟨Nat.le_refl 0, Nat.le_refl 0⟩ (fun r M h => ?_)
      refine a_icmp_lt (tgt := 54) dX5_round_48 (by decide) (fun c => ?_) (fun c => ?_)
      · have h := h.1 c
        refine a_bipush (v := 8) dX5_round_54 (by decide) ?_
        refine a_istore_n (i := 3) (L' := [(3, .int _), (2, .int _), (0, .ref _), (1, .int _)]) dX5_round_56 rfl (by decide) rfl ?_
        refine a_iconst (v := 0) dX5_round_57 (by decide) ?_
        refine a_istore (i := 4) (L' := [(4, .int _), (3, .int _), (2, .int _), (0, .ref _), (1, .int _)]) dX5_round_58 (by decide) rfl ?_
        refine a_sub [3, 4, 2, 1, 0] rfl ?_
        exact s5_round_c60 _ _ _ _ _ _ h
      · have h := h.2 c
        refine a_bipush (v := -9) dX5_round_51 (by decide) ?_
        exact a_iret dX5_round_53 ⟨_, rfl, h⟩
    · have h := h.2 c
      refine a_aload_n dX5_round_30 1 rfl ?_
      refine a_get3 dX5_round_31 34 (by decide) (tbc _ kF_RX5_61) (fun w h => tbc _ (uW3 w h)) rfl ob_62 rfl ?_
      refine a_bipush (v := 9) dX5_round_34 (by decide) ?_
      refine a_iload_n dX5_round_36 0 rfl ?_
      refine a_imul dX5_round_37 ?_
      refine a_bipush (v := 8) dX5_round_38 (by decide) ?_
      refine a_iadd dX5_round_40 ?_
      refine a_iald dX5_round_41 h.1 ?_
      have h := h.2
      exact a_iret dX5_round_42 ⟨_, rfl, h⟩
  · have h := h.2 c
    refine a_aload_n dX5_round_10 0 rfl ?_
    refine a_bipush (v := -4) dX5_round_11 (by decide) ?_
    refine a_callVi (n := 1) [.int _] (C := RX5) (ci := 3) (qc := (RX5, TX5, 40)) (fsF := fl3 G _) ob_62.1 (fun _ => en3 ob_62.2) rfl rfl dX5_round_13 (s5_refuse h) (gV tbc kM_RX5_149_X5_refuse kI_X5_refuse kS_X5_refuse kN_RX5 kC_X5_refuse) rfl (by decide +kernel) ⟨Nat.le_of_ble_eq_true rfl, Nat.le_of_ble_eq_true rfl⟩ rfl rfl (Nat.le_of_ble_eq_true rfl) ⟨Nat.le_refl 0, Nat.le_refl 0⟩ (fun r M h => ?_)
    exact a_iret dX5_round_16 ⟨_, rfl, h⟩

/-! X5_row -/
theorem dX5_row_0 : decode cX5_row 0 = .ok (.aload_n 0, 1) := by decide +kernel
theorem dX5_row_1 : decode cX5_row 1 = .ok (.iconst 0, 1) := by decide +kernel
theorem dX5_row_2 : decode cX5_row 2 = .ok (.putfield 73, 3) := by decide +kernel
theorem dX5_row_5 : decode cX5_row 5 = .ok (.iload_n 1, 1) := by decide +kernel
theorem dX5_row_6 : decode cX5_row 6 = .ok (.ifCond .ge 10, 3) := by decide +kernel
theorem dX5_row_9 : decode cX5_row 9 = .ok (.aload_n 0, 1) := by decide +kernel
theorem dX5_row_10 : decode cX5_row 10 = .ok (.bipush (-4), 2) := by decide +kernel
theorem dX5_row_12 : decode cX5_row 12 = .ok (.invokevirtual 149, 3) := by decide +kernel
theorem dX5_row_15 : decode cX5_row 15 = .ok (.ireturn, 1) := by decide +kernel
theorem dX5_row_16 : decode cX5_row 16 = .ok (.iload_n 1, 1) := by decide +kernel
theorem dX5_row_17 : decode cX5_row 17 = .ok (.bipush 99, 2) := by decide +kernel
theorem dX5_row_19 : decode cX5_row 19 = .ok (.if_icmp .gt 12, 3) := by decide +kernel
theorem dX5_row_22 : decode cX5_row 22 = .ok (.aload_n 0, 1) := by decide +kernel
theorem dX5_row_23 : decode cX5_row 23 = .ok (.getfield 301, 3) := by decide +kernel
theorem dX5_row_26 : decode cX5_row 26 = .ok (.bipush 12, 2) := by decide +kernel
theorem dX5_row_28 : decode cX5_row 28 = .ok (.if_icmp .ne 10, 3) := by decide +kernel
theorem dX5_row_31 : decode cX5_row 31 = .ok (.aload_n 0, 1) := by decide +kernel
theorem dX5_row_32 : decode cX5_row 32 = .ok (.bipush (-6), 2) := by decide +kernel
theorem dX5_row_34 : decode cX5_row 34 = .ok (.invokevirtual 149, 3) := by decide +kernel
theorem dX5_row_37 : decode cX5_row 37 = .ok (.ireturn, 1) := by decide +kernel
theorem dX5_row_38 : decode cX5_row 38 = .ok (.aload_n 0, 1) := by decide +kernel
theorem dX5_row_39 : decode cX5_row 39 = .ok (.getfield 64, 3) := by decide +kernel
theorem dX5_row_42 : decode cX5_row 42 = .ok (.aload_n 0, 1) := by decide +kernel
theorem dX5_row_43 : decode cX5_row 43 = .ok (.getfield 301, 3) := by decide +kernel
theorem dX5_row_46 : decode cX5_row 46 = .ok (.iload_n 1, 1) := by decide +kernel
theorem dX5_row_47 : decode cX5_row 47 = .ok (.iastore, 1) := by decide +kernel
theorem dX5_row_48 : decode cX5_row 48 = .ok (.aload_n 0, 1) := by decide +kernel
theorem dX5_row_49 : decode cX5_row 49 = .ok (.dup, 1) := by decide +kernel
theorem dX5_row_50 : decode cX5_row 50 = .ok (.getfield 301, 3) := by decide +kernel
theorem dX5_row_53 : decode cX5_row 53 = .ok (.iconst 1, 1) := by decide +kernel
theorem dX5_row_54 : decode cX5_row 54 = .ok (.iadd, 1) := by decide +kernel
theorem dX5_row_55 : decode cX5_row 55 = .ok (.putfield 301, 3) := by decide +kernel
theorem dX5_row_58 : decode cX5_row 58 = .ok (.aload_n 0, 1) := by decide +kernel
theorem dX5_row_59 : decode cX5_row 59 = .ok (.getfield 301, 3) := by decide +kernel
theorem dX5_row_62 : decode cX5_row 62 = .ok (.ireturn, 1) := by decide +kernel
abbrev A5_row (G : GG) (Q : Int32 → MM → Prop) := AW G E0 (MZ G (qI Q)) (WY yX5_row cX5_row 2 (some .int)) RX5 cX5_row 2 (some .int) ({ frames := 1, cells := 0, slots := 0, locals := 21 } : Room) 0 0
def D5_row_c31 (Q : Int32 → MM → Prop) (M : MM) : Prop := D5_refuse (-6 : Int32) M (fun (r6 : Int32) (M7 : MM) => Q r6 M7)
def D5_row (x1 : Int32) (M : MM) (Q : Int32 → MM → Prop) : Prop := (fun M1 : MM => ((0 ≤ x1 → (((99 : Int32) < x1 → D5_row_c31 Q M1) ∧ (¬ (99 : Int32) < x1 → (((M1 62 36) ≠ (12 : Int32) → ib 81 (M1 62 36) ∧ (fun M2 : MM => (fun M3 : MM => Q (M3 62 36) M3) (up M2 62 36 ((M2 62 36) + (1 : Int32)))) (up M1 81 (ix (M1 62 36)) x1)) ∧ ((M1 62 36) = (12 : Int32) → D5_row_c31 Q M1))))) ∧ (¬ 0 ≤ x1 → D5_refuse (-4 : Int32) M1 (fun (r4 : Int32) (M5 : MM) => Q r4 M5)))) (up M 62 9 (0 : Int32))
set_option maxHeartbeats 4000000 in
set_option maxRecDepth 100000 in
theorem s5_row_c31 {G : GG} {Q : Int32 → MM → Prop} : ∀  (M : MM), D5_row_c31 Q M → A5_row G Q 31 [(0, .ref (gA G 62))] [] M := by
  intro  M h
  unfold D5_row_c31 at h
  refine a_aload_n dX5_row_31 0 rfl ?_
  refine a_bipush (v := -6) dX5_row_32 (by decide) ?_
  refine a_callVi (n := 1) [.int _] (C := RX5) (ci := 3) (qc := (RX5, TX5, 40)) (fsF := fl3 G _) ob_62.1 (fun _ => en3 ob_62.2) rfl rfl dX5_row_34 (s5_refuse h) (gV tbc kM_RX5_149_X5_refuse kI_X5_refuse kS_X5_refuse kN_RX5 kC_X5_refuse) rfl (by decide +kernel) ⟨Nat.le_of_ble_eq_true rfl, Nat.le_of_ble_eq_true rfl⟩ rfl rfl (Nat.le_of_ble_eq_true rfl) ⟨Nat.le_refl 0, Nat.le_refl 0⟩ (fun r M h => ?_)
  exact a_iret dX5_row_37 ⟨_, rfl, h⟩
set_option maxHeartbeats 4000000 in
set_option maxRecDepth 100000 in
theorem s5_row {G : GG} {x1 : Int32} {M : MM} {Q : Int32 → MM → Prop} (h : D5_row x1 M Q) : CM G yX5_row (WY yX5_row cX5_row 2 (some .int)) 1 21 [.ref (gA G 62), .int x1] M (qI Q) := by
  refine CM.of (cc := cX5_row) (nL := 2) (ret := (some .int)) (own := RX5) (by decide +kernel) rfl rfl (Nat.le_of_ble_eq_true rfl) ?_
  show A5_row G Q 0 [(0, .ref (gA G 62)), (1, .int x1)] [] M
  unfold D5_row at h
  refine a_aload_n dX5_row_0 0 rfl ?_
  refine a_iconst (v := 0) dX5_row_1 (by decide) ?_
  refine a_put3 dX5_row_2 9 (by decide) (tbc _ kF_RX5_73) (fun w h => tbc _ (uW3 w h)) rfl rfl rfl rfl ob_62 fs3_9 ?_
  refine a_iload_n dX5_row_5 1 rfl ?_
  refine a_if_ge (tgt := 16) dX5_row_6 (by decide) (fun c => ?_) (fun c => ?_)
  · have h := h.1 c
    refine a_iload_n dX5_row_16 1 rfl ?_
    refine a_bipush (v := 99) dX5_row_17 (by decide) ?_
    refine a_icmp_gt (tgt := 31) dX5_row_19 (by decide) (fun c => ?_) (fun c => ?_)
    · have h := h.1 c
      refine a_sub [0] rfl ?_
      exact s5_row_c31 _ h
    · have h := h.2 c
      refine a_aload_n dX5_row_22 0 rfl ?_
      refine a_get3 dX5_row_23 36 (by decide) (tbc _ kF_RX5_301) (fun w h => tbc _ (uW3 w h)) rfl ob_62 rfl ?_
      refine a_bipush (v := 12) dX5_row_26 (by decide) ?_
      refine a_icmp_ne (tgt := 38) dX5_row_28 (by decide) (fun c => ?_) (fun c => ?_)
      · have h := h.1 c
        refine a_aload_n dX5_row_38 0 rfl ?_
        refine a_get3 dX5_row_39 35 (by decide) (tbc _ kF_RX5_64) (fun w h => tbc _ (uW3 w h)) rfl ob_62 rfl ?_
        refine a_aload_n dX5_row_42 0 rfl ?_
        refine a_get3 dX5_row_43 36 (by decide) (tbc _ kF_RX5_301) (fun w h => tbc _ (uW3 w h)) rfl ob_62 rfl ?_
        refine a_iload_n dX5_row_46 1 rfl ?_
        refine a_iast dX5_row_47 h.1 ?_
        have h := h.2
        refine a_aload_n dX5_row_48 0 rfl ?_
        refine a_dup dX5_row_49 rfl ?_
        refine a_get3 dX5_row_50 36 (by decide) (tbc _ kF_RX5_301) (fun w h => tbc _ (uW3 w h)) rfl ob_62 rfl ?_
        refine a_iconst (v := 1) dX5_row_53 (by decide) ?_
        refine a_iadd dX5_row_54 ?_
        refine a_put3 dX5_row_55 36 (by decide) (tbc _ kF_RX5_301) (fun w h => tbc _ (uW3 w h)) rfl rfl rfl rfl ob_62 fs3_36 ?_
        refine a_aload_n dX5_row_58 0 rfl ?_
        refine a_get3 dX5_row_59 36 (by decide) (tbc _ kF_RX5_301) (fun w h => tbc _ (uW3 w h)) rfl ob_62 rfl ?_
        exact a_iret dX5_row_62 ⟨_, rfl, h⟩
      · have h := h.2 c
        refine a_sub [0] rfl ?_
        exact s5_row_c31 _ h
  · have h := h.2 c
    refine a_aload_n dX5_row_9 0 rfl ?_
    refine a_bipush (v := -4) dX5_row_10 (by decide) ?_
    refine a_callVi (n := 1) [.int _] (C := RX5) (ci := 3) (qc := (RX5, TX5, 40)) (fsF := fl3 G _) ob_62.1 (fun _ => en3 ob_62.2) rfl rfl dX5_row_12 (s5_refuse h) (gV tbc kM_RX5_149_X5_refuse kI_X5_refuse kS_X5_refuse kN_RX5 kC_X5_refuse) rfl (by decide +kernel) ⟨Nat.le_of_ble_eq_true rfl, Nat.le_of_ble_eq_true rfl⟩ rfl rfl (Nat.le_of_ble_eq_true rfl) ⟨Nat.le_refl 0, Nat.le_refl 0⟩ (fun r M h => ?_)
    exact a_iret dX5_row_15 ⟨_, rfl, h⟩

/-! X5_sand -/
theorem dX5_sand_0 : decode cX5_sand 0 = .ok (.aload_n 0, 1) := by decide +kernel
theorem dX5_sand_1 : decode cX5_sand 1 = .ok (.iconst 0, 1) := by decide +kernel
theorem dX5_sand_2 : decode cX5_sand 2 = .ok (.putfield 73, 3) := by decide +kernel
theorem dX5_sand_5 : decode cX5_sand 5 = .ok (.bipush (-9), 2) := by decide +kernel
theorem dX5_sand_7 : decode cX5_sand 7 = .ok (.istore_n 1, 1) := by decide +kernel
theorem dX5_sand_8 : decode cX5_sand 8 = .ok (.aload_n 0, 1) := by decide +kernel
theorem dX5_sand_9 : decode cX5_sand 9 = .ok (.invokevirtual 209, 3) := by decide +kernel
theorem dX5_sand_12 : decode cX5_sand 12 = .ok (.iconst 0, 1) := by decide +kernel
theorem dX5_sand_13 : decode cX5_sand 13 = .ok (.istore_n 2, 1) := by decide +kernel
theorem dX5_sand_14 : decode cX5_sand 14 = .ok (.iload_n 2, 1) := by decide +kernel
theorem dX5_sand_15 : decode cX5_sand 15 = .ok (.bipush 60, 2) := by decide +kernel
theorem dX5_sand_17 : decode cX5_sand 17 = .ok (.if_icmp .gt 32, 3) := by decide +kernel
theorem dX5_sand_20 : decode cX5_sand 20 = .ok (.iload_n 1, 1) := by decide +kernel
theorem dX5_sand_21 : decode cX5_sand 21 = .ok (.ifCond .ge 28, 3) := by decide +kernel
theorem dX5_sand_24 : decode cX5_sand 24 = .ok (.aload_n 0, 1) := by decide +kernel
theorem dX5_sand_25 : decode cX5_sand 25 = .ok (.invokevirtual 251, 3) := by decide +kernel
theorem dX5_sand_28 : decode cX5_sand 28 = .ok (.ifCond .ne 7, 3) := by decide +kernel
theorem dX5_sand_31 : decode cX5_sand 31 = .ok (.iload_n 2, 1) := by decide +kernel
theorem dX5_sand_32 : decode cX5_sand 32 = .ok (.goto 5, 3) := by decide +kernel
theorem dX5_sand_35 : decode cX5_sand 35 = .ok (.bipush (-9), 2) := by decide +kernel
theorem dX5_sand_37 : decode cX5_sand 37 = .ok (.istore_n 1, 1) := by decide +kernel
theorem dX5_sand_38 : decode cX5_sand 38 = .ok (.aload_n 0, 1) := by decide +kernel
theorem dX5_sand_39 : decode cX5_sand 39 = .ok (.iconst 0, 1) := by decide +kernel
theorem dX5_sand_40 : decode cX5_sand 40 = .ok (.invokevirtual 146, 3) := by decide +kernel
theorem dX5_sand_43 : decode cX5_sand 43 = .ok (.iinc 2 1, 3) := by decide +kernel
theorem dX5_sand_46 : decode cX5_sand 46 = .ok (.goto (-32), 3) := by decide +kernel
theorem dX5_sand_49 : decode cX5_sand 49 = .ok (.aload_n 0, 1) := by decide +kernel
theorem dX5_sand_50 : decode cX5_sand 50 = .ok (.invokevirtual 215, 3) := by decide +kernel
theorem dX5_sand_53 : decode cX5_sand 53 = .ok (.iload_n 1, 1) := by decide +kernel
theorem dX5_sand_54 : decode cX5_sand 54 = .ok (.ireturn, 1) := by decide +kernel
abbrev A5_sand (G : GG) (Q : Int32 → MM → Prop) := AW G E0 (MZ G (qI Q)) (WY yX5_sand cX5_sand 3 (some .int)) RX5 cX5_sand 3 (some .int) ({ frames := 4, cells := 0, slots := 0, locals := 89 } : Room) 0 0
def D5_sand_c37 (K14 : Int32 → Int32 → MM → Prop) (Q : Int32 → MM → Prop) (x2 : Int32) (s0 : Int32) (M : MM) : Prop := D5_hourBy (0 : Int32) M (fun (M9 : MM) => (fun v10 : Int32 => K14 s0 v10 M9) (x2 + (1 : Int32)))
def D5_sand_c49 (Q : Int32 → MM → Prop) (x1 : Int32) (M : MM) : Prop := D5_again M (fun (M7 : MM) => Q x1 M7)
def D5_sand_c14 (Q : Int32 → MM → Prop) : Nat → Int32 → Int32 → MM → Prop
  | 0, _, _, _ => False
  | n + 1, x1, x2, M => (((60 : Int32) < x2 → D5_sand_c49 Q x1 M) ∧ (¬ (60 : Int32) < x2 → ((0 ≤ x1 → D5_sand_c49 Q x1 M) ∧ (¬ 0 ≤ x1 → D5_standing M (fun (r4 : Int32) (M5 : MM) => ((r4 ≠ 0 → D5_sand_c37 (D5_sand_c14 Q n) Q x2 (-9 : Int32) M5) ∧ (r4 = 0 → D5_sand_c37 (D5_sand_c14 Q n) Q x2 x2 M5)))))))
def D5_sand (M : MM) (Q : Int32 → MM → Prop) : Prop := (fun M1 : MM => D5_think M1 (fun (M3 : MM) => D5_sand_c14 Q FU (-9 : Int32) (0 : Int32) M3)) (up M 62 9 (0 : Int32))
set_option maxHeartbeats 4000000 in
set_option maxRecDepth 100000 in
theorem s5_sand_c37 {G : GG} {K14 : Int32 → Int32 → MM → Prop} {Q : Int32 → MM → Prop} (hK14 : ∀ (x1 : Int32) (x2 : Int32) (M : MM), K14 x1 x2 M → A5_sand G Q 14 [(0, .ref (gA G 62)), (1, .int x1), (2, .int x2)] [] M) : ∀ (x2 : Int32) (s0 : Int32) (M : MM), D5_sand_c37 K14 Q x2 s0 M → A5_sand G Q 37 [(0, .ref (gA G 62)), (2, .int x2)] [.int s0] M := by
  intro x2 s0 M h
  unfold D5_sand_c37 at h
  refine a_istore_n (i := 1) (L' := [(1, .int _), (0, .ref _), (2, .int _)]) dX5_sand_37 rfl (by decide) rfl ?_
  refine a_aload_n dX5_sand_38 1 rfl ?_
  refine a_iconst (v := 0) dX5_sand_39 (by decide) ?_
  refine a_callVv (n := 1) [.int _] (C := RX5) (ci := 3) (qc := (RX5, TX5, 40)) (fsF := fl3 G _) ob_62.1 (fun _ => en3 ob_62.2) rfl rfl dX5_sand_40 (s5_hourBy h) (gV tbc kM_RX5_146_X5_hourBy kI_X5_hourBy kS_X5_hourBy kN_RX5 kC_X5_hourBy) rfl (by decide +kernel) ⟨Nat.le_of_ble_eq_true rfl, Nat.le_of_ble_eq_true rfl⟩ rfl rfl (Nat.le_of_ble_eq_true rfl) ⟨Nat.le_refl 0, Nat.le_refl 0⟩ (fun M h => ?_)
  refine a_iinc (L' := [(2, .int _), (1, .int _), (0, .ref _)]) dX5_sand_43 2 rfl (show _ + Int32.ofInt (1 : Int) = _ + (1 : Int32) from rfl) (by decide) rfl ?_
  refine a_goto (tgt := 14) dX5_sand_46 (by decide) ?_
  refine a_sub [2, 1, 0] rfl ?_
  exact hK14 _ _ _ h
set_option maxHeartbeats 4000000 in
set_option maxRecDepth 100000 in
theorem s5_sand_c49 {G : GG} {Q : Int32 → MM → Prop} : ∀ (x1 : Int32) (M : MM), D5_sand_c49 Q x1 M → A5_sand G Q 49 [(0, .ref (gA G 62)), (1, .int x1)] [] M := by
  intro x1 M h
  unfold D5_sand_c49 at h
  refine a_aload_n dX5_sand_49 0 rfl ?_
  refine a_callVv (n := 0) [] (C := RX5) (ci := 3) (qc := (RX5, TX5, 40)) (fsF := fl3 G _) ob_62.1 (fun _ => en3 ob_62.2) rfl rfl dX5_sand_50 (s5_again h) (gV tbc kM_RX5_215_X5_again kI_X5_again kS_X5_again kN_RX5 kC_X5_again) rfl (by decide +kernel) ⟨Nat.le_of_ble_eq_true rfl, Nat.le_of_ble_eq_true rfl⟩ rfl rfl (Nat.le_of_ble_eq_true rfl) ⟨Nat.le_refl 0, Nat.le_refl 0⟩ (fun M h => ?_)
  refine a_iload_n dX5_sand_53 1 rfl ?_
  exact a_iret dX5_sand_54 ⟨_, rfl, h⟩
set_option maxHeartbeats 4000000 in
set_option maxRecDepth 100000 in
theorem s5_sand_c14 {G : GG} {Q : Int32 → MM → Prop} : ∀ (n : Nat) (x1 : Int32) (x2 : Int32) (M : MM), D5_sand_c14 Q n x1 x2 M → A5_sand G Q 14 [(0, .ref (gA G 62)), (1, .int x1), (2, .int x2)] [] M := by
  intro n
  induction n with
  | zero => intro x1 x2 M h; exact h.elim
  | succ n ih =>
    intro x1 x2 M h
    unfold D5_sand_c14 at h
    refine a_iload_n dX5_sand_14 2 rfl ?_
    refine a_bipush (v := 60) dX5_sand_15 (by decide) ?_
    refine a_icmp_gt (tgt := 49) dX5_sand_17 (by decide) (fun c => ?_) (fun c => ?_)
    · have h := h.1 c
      refine a_sub [0, 1] rfl ?_
      exact s5_sand_c49 _ _ h
    · have h := h.2 c
      refine a_iload_n dX5_sand_20 1 rfl ?_
      refine a_if_ge (tgt := 49) dX5_sand_21 (by decide) (fun c => ?_) (fun c => ?_)
      · have h := h.1 c
        refine a_sub [0, 1] rfl ?_
        exact s5_sand_c49 _ _ h
      · have h := h.2 c
        refine a_aload_n dX5_sand_24 0 rfl ?_
        refine a_callVi (n := 0) [] (C := RX5) (ci := 3) (qc := (RX5, TX5, 40)) (fsF := fl3 G _) ob_62.1 (fun _ => en3 ob_62.2) rfl rfl dX5_sand_25 (s5_standing h) (gV tbc kM_RX5_251_X5_standing kI_X5_standing kS_X5_standing kN_RX5 kC_X5_standing) rfl (by decide +kernel) ⟨Nat.le_of_ble_eq_true rfl, Nat.le_of_ble_eq_true rfl⟩ rfl rfl (Nat.le_of_ble_eq_true rfl) ⟨Nat.le_refl 0, Nat.le_refl 0⟩ (fun r M h => ?_)
        refine a_if_ne (tgt := 35) dX5_sand_28 (by decide) (fun c => ?_) (fun c => ?_)
        · have h := h.1 c
          refine a_bipush (v := -9) dX5_sand_35 (by decide) ?_
          refine a_sub [0, 2] rfl ?_
          exact s5_sand_c37 ih _ _ _ h
        · have h := h.2 c
          refine a_iload_n dX5_sand_31 2 rfl ?_
          refine a_goto (tgt := 37) dX5_sand_32 (by decide) ?_
          refine a_sub [0, 2] rfl ?_
          exact s5_sand_c37 ih _ _ _ h
set_option maxHeartbeats 4000000 in
set_option maxRecDepth 100000 in
theorem s5_sand {G : GG} {M : MM} {Q : Int32 → MM → Prop} (h : D5_sand M Q) : CM G yX5_sand (WY yX5_sand cX5_sand 3 (some .int)) 4 89 [.ref (gA G 62)] M (qI Q) := by
  refine CM.of (cc := cX5_sand) (nL := 3) (ret := (some .int)) (own := RX5) (by decide +kernel) rfl rfl (Nat.le_of_ble_eq_true rfl) ?_
  show A5_sand G Q 0 [(0, .ref (gA G 62))] [] M
  unfold D5_sand at h
  refine a_aload_n dX5_sand_0 0 rfl ?_
  refine a_iconst (v := 0) dX5_sand_1 (by decide) ?_
  refine a_put3 dX5_sand_2 9 (by decide) (tbc _ kF_RX5_73) (fun w h => tbc _ (uW3 w h)) rfl rfl rfl rfl ob_62 fs3_9 ?_
  refine a_bipush (v := -9) dX5_sand_5 (by decide) ?_
  refine a_istore_n (i := 1) (L' := [(1, .int _), (0, .ref _)]) dX5_sand_7 rfl (by decide) rfl ?_
  refine a_aload_n dX5_sand_8 1 rfl ?_
  refine a_callVv (n := 0) [] (C := RX5) (ci := 3) (qc := (RX5, TX5, 40)) (fsF := fl3 G _) ob_62.1 (fun _ => en3 ob_62.2) rfl rfl dX5_sand_9 (s5_think h) (gV tbc kM_RX5_209_X5_think kI_X5_think kS_X5_think kN_RX5 kC_X5_think) rfl (by decide +kernel) ⟨Nat.le_of_ble_eq_true rfl, Nat.le_of_ble_eq_true rfl⟩ rfl rfl (Nat.le_of_ble_eq_true rfl) ⟨Nat.le_refl 0, Nat.le_refl 0⟩ (fun M h => ?_)
  refine a_iconst (v := 0) dX5_sand_12 (by decide) ?_
  refine a_istore_n (i := 2) (L' := [(2, .int _), (1, .int _), (0, .ref _)]) dX5_sand_13 rfl (by decide) rfl ?_
  refine a_sub [2, 1, 0] rfl ?_
  exact s5_sand_c14 _ _ _ _ h

/-! X5_shares -/
theorem dX5_shares_0 : decode cX5_shares 0 = .ok (.aload_n 0, 1) := by decide +kernel
theorem dX5_shares_1 : decode cX5_shares 1 = .ok (.iconst 0, 1) := by decide +kernel
theorem dX5_shares_2 : decode cX5_shares 2 = .ok (.putfield 73, 3) := by decide +kernel
theorem dX5_shares_5 : decode cX5_shares 5 = .ok (.iload_n 1, 1) := by decide +kernel
theorem dX5_shares_6 : decode cX5_shares 6 = .ok (.iconst 1, 1) := by decide +kernel
theorem dX5_shares_7 : decode cX5_shares 7 = .ok (.bipush 9, 2) := by decide +kernel
theorem dX5_shares_9 : decode cX5_shares 9 = .ok (.invokestatic 244, 3) := by decide +kernel
theorem dX5_shares_12 : decode cX5_shares 12 = .ok (.iload_n 2, 1) := by decide +kernel
theorem dX5_shares_13 : decode cX5_shares 13 = .ok (.iconst 1, 1) := by decide +kernel
theorem dX5_shares_14 : decode cX5_shares 14 = .ok (.invokestatic 260, 3) := by decide +kernel
theorem dX5_shares_17 : decode cX5_shares 17 = .ok (.istore_n 3, 1) := by decide +kernel
theorem dX5_shares_18 : decode cX5_shares 18 = .ok (.iload_n 3, 1) := by decide +kernel
theorem dX5_shares_19 : decode cX5_shares 19 = .ok (.ifCond .ge 9, 3) := by decide +kernel
theorem dX5_shares_22 : decode cX5_shares 22 = .ok (.aload_n 0, 1) := by decide +kernel
theorem dX5_shares_23 : decode cX5_shares 23 = .ok (.iload_n 3, 1) := by decide +kernel
theorem dX5_shares_24 : decode cX5_shares 24 = .ok (.invokevirtual 149, 3) := by decide +kernel
theorem dX5_shares_27 : decode cX5_shares 27 = .ok (.ireturn, 1) := by decide +kernel
theorem dX5_shares_28 : decode cX5_shares 28 = .ok (.iload_n 2, 1) := by decide +kernel
theorem dX5_shares_29 : decode cX5_shares 29 = .ok (.ifCond .ne 12, 3) := by decide +kernel
theorem dX5_shares_32 : decode cX5_shares 32 = .ok (.aload_n 0, 1) := by decide +kernel
theorem dX5_shares_33 : decode cX5_shares 33 = .ok (.getfield 131, 3) := by decide +kernel
theorem dX5_shares_36 : decode cX5_shares 36 = .ok (.iload_n 1, 1) := by decide +kernel
theorem dX5_shares_37 : decode cX5_shares 37 = .ok (.idiv, 1) := by decide +kernel
theorem dX5_shares_38 : decode cX5_shares 38 = .ok (.goto 9, 3) := by decide +kernel
theorem dX5_shares_41 : decode cX5_shares 41 = .ok (.aload_n 0, 1) := by decide +kernel
theorem dX5_shares_42 : decode cX5_shares 42 = .ok (.getfield 131, 3) := by decide +kernel
theorem dX5_shares_45 : decode cX5_shares 45 = .ok (.iload_n 1, 1) := by decide +kernel
theorem dX5_shares_46 : decode cX5_shares 46 = .ok (.irem, 1) := by decide +kernel
theorem dX5_shares_47 : decode cX5_shares 47 = .ok (.ireturn, 1) := by decide +kernel
abbrev A5_shares (G : GG) (Q : Int32 → MM → Prop) := AW G E0 (MZ G (qI Q)) (WY yX5_shares cX5_shares 4 (some .int)) RX5 cX5_shares 4 (some .int) ({ frames := 2, cells := 0, slots := 0, locals := 47 } : Room) 0 0
def D5_shares (x1 : Int32) (x2 : Int32) (M : MM) (Q : Int32 → MM → Prop) : Prop := (fun M1 : MM => D5_wrongNumber x1 (1 : Int32) (9 : Int32) M1 (fun (r2 : Int32) (M3 : MM) => D5_wrongBit r2 x2 (1 : Int32) M3 (fun (r4 : Int32) (M5 : MM) => ((0 ≤ r4 → ((x2 ≠ 0 → ¬ x1 = 0 ∧ Q ((M5 62 6) - (M5 62 6) / x1 * x1) M5) ∧ (x2 = 0 → ¬ x1 = 0 ∧ Q ((M5 62 6) / x1) M5))) ∧ (¬ 0 ≤ r4 → D5_refuse r4 M5 (fun (r6 : Int32) (M7 : MM) => Q r6 M7)))))) (up M 62 9 (0 : Int32))
set_option maxHeartbeats 4000000 in
set_option maxRecDepth 100000 in
theorem s5_shares {G : GG} {x1 : Int32} {x2 : Int32} {M : MM} {Q : Int32 → MM → Prop} (h : D5_shares x1 x2 M Q) : CM G yX5_shares (WY yX5_shares cX5_shares 4 (some .int)) 2 47 [.ref (gA G 62), .int x1, .int x2] M (qI Q) := by
  refine CM.of (cc := cX5_shares) (nL := 4) (ret := (some .int)) (own := RX5) (by decide +kernel) rfl rfl (Nat.le_of_ble_eq_true rfl) ?_
  show A5_shares G Q 0 [(0, .ref (gA G 62)), (1, .int x1), (2, .int x2)] [] M
  unfold D5_shares at h
  refine a_aload_n dX5_shares_0 0 rfl ?_
  refine a_iconst (v := 0) dX5_shares_1 (by decide) ?_
  refine a_put3 dX5_shares_2 9 (by decide) (tbc _ kF_RX5_73) (fun w h => tbc _ (uW3 w h)) rfl rfl rfl rfl ob_62 fs3_9 ?_
  refine a_iload_n dX5_shares_5 1 rfl ?_
  refine a_iconst (v := 1) dX5_shares_6 (by decide) ?_
  refine a_bipush (v := 9) dX5_shares_7 (by decide) ?_
  refine a_callSi (n := 3) [.int _, .int _, .int _] dX5_shares_9 (s5_wrongNumber h) (gS tbc kM_RX5_244_X5_wrongNumber kT_X5_wrongNumber kN_RX5 kC_X5_wrongNumber) rfl (by decide +kernel) ⟨Nat.le_of_ble_eq_true rfl, Nat.le_of_ble_eq_true rfl⟩ rfl rfl (Nat.le_of_ble_eq_true rfl) ⟨Nat.le_refl 0, Nat.le_refl 0⟩ (fun r M h => ?_)
  refine a_iload_n dX5_shares_12 2 rfl ?_
  refine a_iconst (v := 1) dX5_shares_13 (by decide) ?_
  refine a_callSi (n := 3) [.int _, .int _, .int _] dX5_shares_14 (s5_wrongBit h) (gS tbc kM_RX5_260_X5_wrongBit kT_X5_wrongBit kN_RX5 kC_X5_wrongBit) rfl (by decide +kernel) ⟨Nat.le_of_ble_eq_true rfl, Nat.le_of_ble_eq_true rfl⟩ rfl rfl (Nat.le_of_ble_eq_true rfl) ⟨Nat.le_refl 0, Nat.le_refl 0⟩ (fun r M h => ?_)
  refine a_istore_n (i := 3) (L' := [(3, .int _), (0, .ref _), (1, .int _), (2, .int _)]) dX5_shares_17 rfl (by decide) rfl ?_
  refine a_iload_n dX5_shares_18 0 rfl ?_
  refine a_if_ge (tgt := 28) dX5_shares_19 (by decide) (fun c => ?_) (fun c => ?_)
  · have h := h.1 c
    refine a_iload_n dX5_shares_28 3 rfl ?_
    refine a_if_ne (tgt := 41) dX5_shares_29 (by decide) (fun c => ?_) (fun c => ?_)
    · have h := h.1 c
      refine a_aload_n dX5_shares_41 1 rfl ?_
      refine a_get3 dX5_shares_42 6 (by decide) (tbc _ kF_RX5_131) (fun w h => tbc _ (uW3 w h)) rfl ob_62 rfl ?_
      refine a_iload_n dX5_shares_45 2 rfl ?_
      refine a_irem dX5_shares_46 h.1 ?_
      have h := h.2
      exact a_iret dX5_shares_47 ⟨_, rfl, h⟩
    · have h := h.2 c
      refine a_aload_n dX5_shares_32 1 rfl ?_
      refine a_get3 dX5_shares_33 6 (by decide) (tbc _ kF_RX5_131) (fun w h => tbc _ (uW3 w h)) rfl ob_62 rfl ?_
      refine a_iload_n dX5_shares_36 2 rfl ?_
      refine a_idiv dX5_shares_37 h.1 ?_
      have h := h.2
      refine a_goto (tgt := 47) dX5_shares_38 (by decide) ?_
      exact a_iret dX5_shares_47 ⟨_, rfl, h⟩
  · have h := h.2 c
    refine a_aload_n dX5_shares_22 1 rfl ?_
    refine a_iload_n dX5_shares_23 0 rfl ?_
    refine a_callVi (n := 1) [.int _] (C := RX5) (ci := 3) (qc := (RX5, TX5, 40)) (fsF := fl3 G _) ob_62.1 (fun _ => en3 ob_62.2) rfl rfl dX5_shares_24 (s5_refuse h) (gV tbc kM_RX5_149_X5_refuse kI_X5_refuse kS_X5_refuse kN_RX5 kC_X5_refuse) rfl (by decide +kernel) ⟨Nat.le_of_ble_eq_true rfl, Nat.le_of_ble_eq_true rfl⟩ rfl rfl (Nat.le_of_ble_eq_true rfl) ⟨Nat.le_refl 0, Nat.le_refl 0⟩ (fun r M h => ?_)
    exact a_iret dX5_shares_27 ⟨_, rfl, h⟩

/-! X5_swells -/
theorem dX5_swells_0 : decode cX5_swells 0 = .ok (.aload_n 0, 1) := by decide +kernel
theorem dX5_swells_1 : decode cX5_swells 1 = .ok (.iconst 0, 1) := by decide +kernel
theorem dX5_swells_2 : decode cX5_swells 2 = .ok (.putfield 73, 3) := by decide +kernel
theorem dX5_swells_5 : decode cX5_swells 5 = .ok (.iconst 0, 1) := by decide +kernel
theorem dX5_swells_6 : decode cX5_swells 6 = .ok (.istore 5, 2) := by decide +kernel
theorem dX5_swells_8 : decode cX5_swells 8 = .ok (.aload_n 0, 1) := by decide +kernel
theorem dX5_swells_9 : decode cX5_swells 9 = .ok (.iload_n 1, 1) := by decide +kernel
theorem dX5_swells_10 : decode cX5_swells 10 = .ok (.invokevirtual 182, 3) := by decide +kernel
theorem dX5_swells_13 : decode cX5_swells 13 = .ok (.ifCond .ne 9, 3) := by decide +kernel
theorem dX5_swells_16 : decode cX5_swells 16 = .ok (.iconst (-1), 1) := by decide +kernel
theorem dX5_swells_17 : decode cX5_swells 17 = .ok (.istore 5, 2) := by decide +kernel
theorem dX5_swells_19 : decode cX5_swells 19 = .ok (.goto 35, 3) := by decide +kernel
theorem dX5_swells_22 : decode cX5_swells 22 = .ok (.iload_n 2, 1) := by decide +kernel
theorem dX5_swells_23 : decode cX5_swells 23 = .ok (.ifCond .lt 8, 3) := by decide +kernel
theorem dX5_swells_26 : decode cX5_swells 26 = .ok (.iload_n 3, 1) := by decide +kernel
theorem dX5_swells_27 : decode cX5_swells 27 = .ok (.iconst 2, 1) := by decide +kernel
theorem dX5_swells_28 : decode cX5_swells 28 = .ok (.if_icmp .ge 10, 3) := by decide +kernel
theorem dX5_swells_31 : decode cX5_swells 31 = .ok (.bipush (-4), 2) := by decide +kernel
theorem dX5_swells_33 : decode cX5_swells 33 = .ok (.istore 5, 2) := by decide +kernel
theorem dX5_swells_35 : decode cX5_swells 35 = .ok (.goto 19, 3) := by decide +kernel
theorem dX5_swells_38 : decode cX5_swells 38 = .ok (.iload_n 2, 1) := by decide +kernel
theorem dX5_swells_39 : decode cX5_swells 39 = .ok (.bipush 7, 2) := by decide +kernel
theorem dX5_swells_41 : decode cX5_swells 41 = .ok (.if_icmp .gt 9, 3) := by decide +kernel
theorem dX5_swells_44 : decode cX5_swells 44 = .ok (.iload_n 3, 1) := by decide +kernel
theorem dX5_swells_45 : decode cX5_swells 45 = .ok (.bipush 20, 2) := by decide +kernel
theorem dX5_swells_47 : decode cX5_swells 47 = .ok (.if_icmp .le 7, 3) := by decide +kernel
theorem dX5_swells_50 : decode cX5_swells 50 = .ok (.bipush (-6), 2) := by decide +kernel
theorem dX5_swells_52 : decode cX5_swells 52 = .ok (.istore 5, 2) := by decide +kernel
theorem dX5_swells_54 : decode cX5_swells 54 = .ok (.iload 5, 2) := by decide +kernel
theorem dX5_swells_56 : decode cX5_swells 56 = .ok (.iload 4, 2) := by decide +kernel
theorem dX5_swells_58 : decode cX5_swells 58 = .ok (.iconst 1, 1) := by decide +kernel
theorem dX5_swells_59 : decode cX5_swells 59 = .ok (.invokestatic 260, 3) := by decide +kernel
theorem dX5_swells_62 : decode cX5_swells 62 = .ok (.istore 5, 2) := by decide +kernel
theorem dX5_swells_64 : decode cX5_swells 64 = .ok (.iload 5, 2) := by decide +kernel
theorem dX5_swells_66 : decode cX5_swells 66 = .ok (.ifCond .ge 15, 3) := by decide +kernel
theorem dX5_swells_69 : decode cX5_swells 69 = .ok (.ldc2_w 311, 3) := by decide +kernel
theorem dX5_swells_72 : decode cX5_swells 72 = .ok (.aload_n 0, 1) := by decide +kernel
theorem dX5_swells_73 : decode cX5_swells 73 = .ok (.iload 5, 2) := by decide +kernel
theorem dX5_swells_75 : decode cX5_swells 75 = .ok (.invokevirtual 149, 3) := by decide +kernel
theorem dX5_swells_78 : decode cX5_swells 78 = .ok (.i2l, 1) := by decide +kernel
theorem dX5_swells_79 : decode cX5_swells 79 = .ok (.lsub, 1) := by decide +kernel
theorem dX5_swells_80 : decode cX5_swells 80 = .ok (.lreturn, 1) := by decide +kernel
theorem dX5_swells_81 : decode cX5_swells 81 = .ok (.lconst 0, 1) := by decide +kernel
theorem dX5_swells_82 : decode cX5_swells 82 = .ok (.lstore 6, 2) := by decide +kernel
theorem dX5_swells_84 : decode cX5_swells 84 = .ok (.lconst 1, 1) := by decide +kernel
theorem dX5_swells_85 : decode cX5_swells 85 = .ok (.lstore 8, 2) := by decide +kernel
theorem dX5_swells_87 : decode cX5_swells 87 = .ok (.iconst 0, 1) := by decide +kernel
theorem dX5_swells_88 : decode cX5_swells 88 = .ok (.istore 10, 2) := by decide +kernel
theorem dX5_swells_90 : decode cX5_swells 90 = .ok (.iload 10, 2) := by decide +kernel
theorem dX5_swells_92 : decode cX5_swells 92 = .ok (.iload_n 2, 1) := by decide +kernel
theorem dX5_swells_93 : decode cX5_swells 93 = .ok (.if_icmp .ge 16, 3) := by decide +kernel
theorem dX5_swells_96 : decode cX5_swells 96 = .ok (.lload 8, 2) := by decide +kernel
theorem dX5_swells_98 : decode cX5_swells 98 = .ok (.iload_n 3, 1) := by decide +kernel
theorem dX5_swells_99 : decode cX5_swells 99 = .ok (.i2l, 1) := by decide +kernel
theorem dX5_swells_100 : decode cX5_swells 100 = .ok (.lmul, 1) := by decide +kernel
theorem dX5_swells_101 : decode cX5_swells 101 = .ok (.lstore 8, 2) := by decide +kernel
theorem dX5_swells_103 : decode cX5_swells 103 = .ok (.iinc 10 1, 3) := by decide +kernel
theorem dX5_swells_106 : decode cX5_swells 106 = .ok (.goto (-16), 3) := by decide +kernel
theorem dX5_swells_109 : decode cX5_swells 109 = .ok (.aload_n 0, 1) := by decide +kernel
theorem dX5_swells_110 : decode cX5_swells 110 = .ok (.invokevirtual 209, 3) := by decide +kernel
theorem dX5_swells_113 : decode cX5_swells 113 = .ok (.iconst 0, 1) := by decide +kernel
theorem dX5_swells_114 : decode cX5_swells 114 = .ok (.istore 10, 2) := by decide +kernel
theorem dX5_swells_116 : decode cX5_swells 116 = .ok (.iload 10, 2) := by decide +kernel
theorem dX5_swells_118 : decode cX5_swells 118 = .ok (.iconst 1, 1) := by decide +kernel
theorem dX5_swells_119 : decode cX5_swells 119 = .ok (.iload_n 2, 1) := by decide +kernel
theorem dX5_swells_120 : decode cX5_swells 120 = .ok (.ishl, 1) := by decide +kernel
theorem dX5_swells_121 : decode cX5_swells 121 = .ok (.if_icmp .ge 93, 3) := by decide +kernel
theorem dX5_swells_124 : decode cX5_swells 124 = .ok (.lconst 1, 1) := by decide +kernel
theorem dX5_swells_125 : decode cX5_swells 125 = .ok (.lstore 11, 2) := by decide +kernel
theorem dX5_swells_127 : decode cX5_swells 127 = .ok (.iconst 0, 1) := by decide +kernel
theorem dX5_swells_128 : decode cX5_swells 128 = .ok (.istore 13, 2) := by decide +kernel
theorem dX5_swells_130 : decode cX5_swells 130 = .ok (.iload 13, 2) := by decide +kernel
theorem dX5_swells_132 : decode cX5_swells 132 = .ok (.iload_n 2, 1) := by decide +kernel
theorem dX5_swells_133 : decode cX5_swells 133 = .ok (.if_icmp .ge 51, 3) := by decide +kernel
theorem dX5_swells_136 : decode cX5_swells 136 = .ok (.lload 11, 2) := by decide +kernel
theorem dX5_swells_138 : decode cX5_swells 138 = .ok (.iload 10, 2) := by decide +kernel
theorem dX5_swells_140 : decode cX5_swells 140 = .ok (.iload 13, 2) := by decide +kernel
theorem dX5_swells_142 : decode cX5_swells 142 = .ok (.invokestatic 93, 3) := by decide +kernel
theorem dX5_swells_145 : decode cX5_swells 145 = .ok (.ifCond .eq 7, 3) := by decide +kernel
theorem dX5_swells_148 : decode cX5_swells 148 = .ok (.lconst 1, 1) := by decide +kernel
theorem dX5_swells_149 : decode cX5_swells 149 = .ok (.goto 7, 3) := by decide +kernel
theorem dX5_swells_152 : decode cX5_swells 152 = .ok (.iload_n 3, 1) := by decide +kernel
theorem dX5_swells_153 : decode cX5_swells 153 = .ok (.iconst 1, 1) := by decide +kernel
theorem dX5_swells_154 : decode cX5_swells 154 = .ok (.isub, 1) := by decide +kernel
theorem dX5_swells_155 : decode cX5_swells 155 = .ok (.i2l, 1) := by decide +kernel
theorem dX5_swells_156 : decode cX5_swells 156 = .ok (.lmul, 1) := by decide +kernel
theorem dX5_swells_157 : decode cX5_swells 157 = .ok (.lstore 11, 2) := by decide +kernel
theorem dX5_swells_159 : decode cX5_swells 159 = .ok (.aload_n 0, 1) := by decide +kernel
theorem dX5_swells_160 : decode cX5_swells 160 = .ok (.iload 10, 2) := by decide +kernel
theorem dX5_swells_162 : decode cX5_swells 162 = .ok (.iload 13, 2) := by decide +kernel
theorem dX5_swells_164 : decode cX5_swells 164 = .ok (.invokestatic 93, 3) := by decide +kernel
theorem dX5_swells_167 : decode cX5_swells 167 = .ok (.ifCond .eq 7, 3) := by decide +kernel
theorem dX5_swells_170 : decode cX5_swells 170 = .ok (.iconst 1, 1) := by decide +kernel
theorem dX5_swells_171 : decode cX5_swells 171 = .ok (.goto 4, 3) := by decide +kernel
theorem dX5_swells_174 : decode cX5_swells 174 = .ok (.iconst 0, 1) := by decide +kernel
theorem dX5_swells_175 : decode cX5_swells 175 = .ok (.invokevirtual 146, 3) := by decide +kernel
theorem dX5_swells_178 : decode cX5_swells 178 = .ok (.iinc 13 1, 3) := by decide +kernel
theorem dX5_swells_181 : decode cX5_swells 181 = .ok (.goto (-51), 3) := by decide +kernel
theorem dX5_swells_184 : decode cX5_swells 184 = .ok (.lload 6, 2) := by decide +kernel
theorem dX5_swells_186 : decode cX5_swells 186 = .ok (.aload_n 0, 1) := by decide +kernel
theorem dX5_swells_187 : decode cX5_swells 187 = .ok (.getfield 22, 3) := by decide +kernel
theorem dX5_swells_190 : decode cX5_swells 190 = .ok (.iload_n 1, 1) := by decide +kernel
theorem dX5_swells_191 : decode cX5_swells 191 = .ok (.iaload, 1) := by decide +kernel
theorem dX5_swells_192 : decode cX5_swells 192 = .ok (.ifCond .ne 8, 3) := by decide +kernel
theorem dX5_swells_195 : decode cX5_swells 195 = .ok (.lload 11, 2) := by decide +kernel
theorem dX5_swells_197 : decode cX5_swells 197 = .ok (.goto 4, 3) := by decide +kernel
theorem dX5_swells_200 : decode cX5_swells 200 = .ok (.lconst 0, 1) := by decide +kernel
theorem dX5_swells_201 : decode cX5_swells 201 = .ok (.ladd, 1) := by decide +kernel
theorem dX5_swells_202 : decode cX5_swells 202 = .ok (.lstore 6, 2) := by decide +kernel
theorem dX5_swells_204 : decode cX5_swells 204 = .ok (.aload_n 0, 1) := by decide +kernel
theorem dX5_swells_205 : decode cX5_swells 205 = .ok (.invokevirtual 215, 3) := by decide +kernel
theorem dX5_swells_208 : decode cX5_swells 208 = .ok (.iinc 10 1, 3) := by decide +kernel
theorem dX5_swells_211 : decode cX5_swells 211 = .ok (.goto (-95), 3) := by decide +kernel
theorem dX5_swells_214 : decode cX5_swells 214 = .ok (.lload 6, 2) := by decide +kernel
theorem dX5_swells_216 : decode cX5_swells 216 = .ok (.lload 8, 2) := by decide +kernel
theorem dX5_swells_218 : decode cX5_swells 218 = .ok (.iload 4, 2) := by decide +kernel
theorem dX5_swells_220 : decode cX5_swells 220 = .ok (.invokestatic 313, 3) := by decide +kernel
theorem dX5_swells_223 : decode cX5_swells 223 = .ok (.lreturn, 1) := by decide +kernel
abbrev A5_swells (G : GG) (Q : Int64 → MM → Prop) := AW G E0 (MZ G (qL Q)) (WY yX5_swells cX5_swells 14 (some .long)) RX5 cX5_swells 14 (some .long) ({ frames := 4, cells := 0, slots := 0, locals := 89 } : Room) 0 0
def D5_swells_c175 (K130 : Int32 → Int32 → Int32 → Int32 → Int64 → Int64 → Int32 → Int64 → Int32 → MM → Prop) (K116 : Int32 → Int32 → Int32 → Int32 → Int64 → Int64 → Int32 → MM → Prop) (Q : Int64 → MM → Prop) (x1 : Int32) (x2 : Int32) (x3 : Int32) (x4 : Int32) (x6 : Int64) (x8 : Int64) (x10 : Int32) (x11 : Int64) (x13 : Int32) (s0 : Int32) (M : MM) : Prop := D5_hourBy s0 M (fun (M24 : MM) => (fun v25 : Int32 => K130 x1 x2 x3 x4 x6 x8 x10 x11 v25 M24) (x13 + (1 : Int32)))
def D5_swells_c156 (K130 : Int32 → Int32 → Int32 → Int32 → Int64 → Int64 → Int32 → Int64 → Int32 → MM → Prop) (K116 : Int32 → Int32 → Int32 → Int32 → Int64 → Int64 → Int32 → MM → Prop) (Q : Int64 → MM → Prop) (x1 : Int32) (x2 : Int32) (x3 : Int32) (x4 : Int32) (x6 : Int64) (x8 : Int64) (x10 : Int32) (x13 : Int32) (s0 : Int64) (s1 : Int64) (M : MM) : Prop := (fun v16 : Int64 => D5_hasBit x10 x13 M (fun (r17 : Int32) (M18 : MM) => ((r17 = 0 → D5_swells_c175 K130 K116 Q x1 x2 x3 x4 x6 x8 x10 v16 x13 (0 : Int32) M18) ∧ (¬ r17 = 0 → D5_swells_c175 K130 K116 Q x1 x2 x3 x4 x6 x8 x10 v16 x13 (1 : Int32) M18)))) (s1 * s0)
def D5_swells_c201 (K116 : Int32 → Int32 → Int32 → Int32 → Int64 → Int64 → Int32 → MM → Prop) (Q : Int64 → MM → Prop) (x1 : Int32) (x2 : Int32) (x3 : Int32) (x4 : Int32) (x8 : Int64) (x10 : Int32) (s0 : Int64) (s1 : Int64) (M : MM) : Prop := (fun v19 : Int64 => D5_again M (fun (M21 : MM) => (fun v22 : Int32 => K116 x1 x2 x3 x4 v19 x8 v22 M21) (x10 + (1 : Int32)))) (s1 + s0)
def D5_swells_c184 (K116 : Int32 → Int32 → Int32 → Int32 → Int64 → Int64 → Int32 → MM → Prop) (Q : Int64 → MM → Prop) (x1 : Int32) (x2 : Int32) (x3 : Int32) (x4 : Int32) (x6 : Int64) (x8 : Int64) (x10 : Int32) (x11 : Int64) (M : MM) : Prop := ib 67 x1 ∧ (((M 67 (ix x1)) ≠ 0 → D5_swells_c201 K116 Q x1 x2 x3 x4 x8 x10 (0 : Int64) x6 M) ∧ ((M 67 (ix x1)) = 0 → D5_swells_c201 K116 Q x1 x2 x3 x4 x8 x10 x11 x6 M))
def D5_swells_c130 (K116 : Int32 → Int32 → Int32 → Int32 → Int64 → Int64 → Int32 → MM → Prop) (Q : Int64 → MM → Prop) : Nat → Int32 → Int32 → Int32 → Int32 → Int64 → Int64 → Int32 → Int64 → Int32 → MM → Prop
  | 0, _, _, _, _, _, _, _, _, _, _ => False
  | n + 1, x1, x2, x3, x4, x6, x8, x10, x11, x13, M => ((x2 ≤ x13 → D5_swells_c184 K116 Q x1 x2 x3 x4 x6 x8 x10 x11 M) ∧ (¬ x2 ≤ x13 → D5_hasBit x10 x13 M (fun (r14 : Int32) (M15 : MM) => ((r14 = 0 → D5_swells_c156 (D5_swells_c130 K116 Q n) K116 Q x1 x2 x3 x4 x6 x8 x10 x13 ((x3 - (1 : Int32)).toInt64) x11 M15) ∧ (¬ r14 = 0 → D5_swells_c156 (D5_swells_c130 K116 Q n) K116 Q x1 x2 x3 x4 x6 x8 x10 x13 (1 : Int64) x11 M15)))))
def D5_swells_c214 (Q : Int64 → MM → Prop) (x4 : Int32) (x6 : Int64) (x8 : Int64) (M : MM) : Prop := D5_partOf x6 x8 x4 M (fun (r12 : Int64) (M13 : MM) => Q r12 M13)
def D5_swells_c116 (Q : Int64 → MM → Prop) : Nat → Int32 → Int32 → Int32 → Int32 → Int64 → Int64 → Int32 → MM → Prop
  | 0, _, _, _, _, _, _, _, _ => False
  | n + 1, x1, x2, x3, x4, x6, x8, x10, M => ((((1 : Int32) <<< (x2 &&& 31)) ≤ x10 → D5_swells_c214 Q x4 x6 x8 M) ∧ (¬ ((1 : Int32) <<< (x2 &&& 31)) ≤ x10 → D5_swells_c130 (D5_swells_c116 Q n) Q FU x1 x2 x3 x4 x6 x8 x10 (1 : Int64) (0 : Int32) M))
def D5_swells_c109 (Q : Int64 → MM → Prop) (x1 : Int32) (x2 : Int32) (x3 : Int32) (x4 : Int32) (x6 : Int64) (x8 : Int64) (M : MM) : Prop := D5_think M (fun (M11 : MM) => D5_swells_c116 Q FU x1 x2 x3 x4 x6 x8 (0 : Int32) M11)
def D5_swells_c90 (Q : Int64 → MM → Prop) : Nat → Int32 → Int32 → Int32 → Int32 → Int64 → Int64 → Int32 → MM → Prop
  | 0, _, _, _, _, _, _, _, _ => False
  | n + 1, x1, x2, x3, x4, x6, x8, x10, M => ((x2 ≤ x10 → D5_swells_c109 Q x1 x2 x3 x4 x6 x8 M) ∧ (¬ x2 ≤ x10 → (fun v8 : Int64 => (fun v9 : Int32 => D5_swells_c90 Q n x1 x2 x3 x4 x6 v8 v9 M) (x10 + (1 : Int32))) (x8 * x3.toInt64)))
def D5_swells_c54 (Q : Int64 → MM → Prop) (x1 : Int32) (x2 : Int32) (x3 : Int32) (x4 : Int32) (x5 : Int32) (M : MM) : Prop := D5_wrongBit x5 x4 (1 : Int32) M (fun (r4 : Int32) (M5 : MM) => ((0 ≤ r4 → D5_swells_c90 Q FU x1 x2 x3 x4 (0 : Int64) (1 : Int64) (0 : Int32) M5) ∧ (¬ 0 ≤ r4 → D5_refuse r4 M5 (fun (r6 : Int32) (M7 : MM) => Q ((4000000000000000000 : Int64) - r6.toInt64) M7))))
def D5_swells_c31 (Q : Int64 → MM → Prop) (x1 : Int32) (x2 : Int32) (x3 : Int32) (x4 : Int32) (M : MM) : Prop := D5_swells_c54 Q x1 x2 x3 x4 (-4 : Int32) M
def D5_swells_c50 (Q : Int64 → MM → Prop) (x1 : Int32) (x2 : Int32) (x3 : Int32) (x4 : Int32) (M : MM) : Prop := D5_swells_c54 Q x1 x2 x3 x4 (-6 : Int32) M
def D5_swells (x1 : Int32) (x2 : Int32) (x3 : Int32) (x4 : Int32) (M : MM) (Q : Int64 → MM → Prop) : Prop := (fun M1 : MM => D5_isWork x1 M1 (fun (r2 : Int32) (M3 : MM) => ((r2 ≠ 0 → ((x2 < 0 → D5_swells_c31 Q x1 x2 x3 x4 M3) ∧ (¬ x2 < 0 → (((2 : Int32) ≤ x3 → (((7 : Int32) < x2 → D5_swells_c50 Q x1 x2 x3 x4 M3) ∧ (¬ (7 : Int32) < x2 → ((x3 ≤ (20 : Int32) → D5_swells_c54 Q x1 x2 x3 x4 (0 : Int32) M3) ∧ (¬ x3 ≤ (20 : Int32) → D5_swells_c50 Q x1 x2 x3 x4 M3))))) ∧ (¬ (2 : Int32) ≤ x3 → D5_swells_c31 Q x1 x2 x3 x4 M3))))) ∧ (r2 = 0 → D5_swells_c54 Q x1 x2 x3 x4 (-1 : Int32) M3)))) (up M 62 9 (0 : Int32))
set_option maxHeartbeats 4000000 in
set_option maxRecDepth 100000 in
theorem s5_swells_c175 {G : GG} {K130 : Int32 → Int32 → Int32 → Int32 → Int64 → Int64 → Int32 → Int64 → Int32 → MM → Prop} {K116 : Int32 → Int32 → Int32 → Int32 → Int64 → Int64 → Int32 → MM → Prop} {Q : Int64 → MM → Prop} (hK130 : ∀ (x1 : Int32) (x2 : Int32) (x3 : Int32) (x4 : Int32) (x6 : Int64) (x8 : Int64) (x10 : Int32) (x11 : Int64) (x13 : Int32) (M : MM), K130 x1 x2 x3 x4 x6 x8 x10 x11 x13 M → A5_swells G Q 130 [(0, .ref (gA G 62)), (1, .int x1), (2, .int x2), (3, .int x3), (4, .int x4), (6, .long x6), (8, .long x8), (10, .int x10), (11, .long x11), (13, .int x13)] [] M) (hK116 : ∀ (x1 : Int32) (x2 : Int32) (x3 : Int32) (x4 : Int32) (x6 : Int64) (x8 : Int64) (x10 : Int32) (M : MM), K116 x1 x2 x3 x4 x6 x8 x10 M → A5_swells G Q 116 [(0, .ref (gA G 62)), (1, .int x1), (2, .int x2), (3, .int x3), (4, .int x4), (6, .long x6), (8, .long x8), (10, .int x10)] [] M) : ∀ (x1 : Int32) (x2 : Int32) (x3 : Int32) (x4 : Int32) (x6 : Int64) (x8 : Int64) (x10 : Int32) (x11 : Int64) (x13 : Int32) (s0 : Int32) (M : MM), D5_swells_c175 K130 K116 Q x1 x2 x3 x4 x6 x8 x10 x11 x13 s0 M → A5_swells G Q 175 [(0, .ref (gA G 62)), (1, .int x1), (2, .int x2), (3, .int x3), (4, .int x4), (6, .long x6), (8, .long x8), (10, .int x10), (11, .long x11), (13, .int x13)] [.int s0, .ref (gA G 62)] M := by
  intro x1 x2 x3 x4 x6 x8 x10 x11 x13 s0 M h
  unfold D5_swells_c175 at h
  refine a_callVv (n := 1) [.int _] (C := RX5) (ci := 3) (qc := (RX5, TX5, 40)) (fsF := fl3 G _) ob_62.1 (fun _ => en3 ob_62.2) rfl rfl dX5_swells_175 (s5_hourBy h) (gV tbc kM_RX5_146_X5_hourBy kI_X5_hourBy kS_X5_hourBy kN_RX5 kC_X5_hourBy) rfl (by decide +kernel) ⟨Nat.le_of_ble_eq_true rfl, Nat.le_of_ble_eq_true rfl⟩ rfl rfl (Nat.le_of_ble_eq_true rfl) ⟨Nat.le_refl 0, Nat.le_refl 0⟩ (fun M h => ?_)
  refine a_iinc (L' := [(13, .int _), (0, .ref _), (1, .int _), (2, .int _), (3, .int _), (4, .int _), (6, .long _), (8, .long _), (10, .int _), (11, .long _)]) dX5_swells_178 9 rfl (show _ + Int32.ofInt (1 : Int) = _ + (1 : Int32) from rfl) (by decide) rfl ?_
  refine a_goto (tgt := 130) dX5_swells_181 (by decide) ?_
  refine a_sub [1, 2, 3, 4, 5, 6, 7, 8, 9, 0] rfl ?_
  exact hK130 _ _ _ _ _ _ _ _ _ _ h
set_option maxHeartbeats 4000000 in
set_option maxRecDepth 100000 in
theorem s5_swells_c156 {G : GG} {K130 : Int32 → Int32 → Int32 → Int32 → Int64 → Int64 → Int32 → Int64 → Int32 → MM → Prop} {K116 : Int32 → Int32 → Int32 → Int32 → Int64 → Int64 → Int32 → MM → Prop} {Q : Int64 → MM → Prop} (hK130 : ∀ (x1 : Int32) (x2 : Int32) (x3 : Int32) (x4 : Int32) (x6 : Int64) (x8 : Int64) (x10 : Int32) (x11 : Int64) (x13 : Int32) (M : MM), K130 x1 x2 x3 x4 x6 x8 x10 x11 x13 M → A5_swells G Q 130 [(0, .ref (gA G 62)), (1, .int x1), (2, .int x2), (3, .int x3), (4, .int x4), (6, .long x6), (8, .long x8), (10, .int x10), (11, .long x11), (13, .int x13)] [] M) (hK116 : ∀ (x1 : Int32) (x2 : Int32) (x3 : Int32) (x4 : Int32) (x6 : Int64) (x8 : Int64) (x10 : Int32) (M : MM), K116 x1 x2 x3 x4 x6 x8 x10 M → A5_swells G Q 116 [(0, .ref (gA G 62)), (1, .int x1), (2, .int x2), (3, .int x3), (4, .int x4), (6, .long x6), (8, .long x8), (10, .int x10)] [] M) : ∀ (x1 : Int32) (x2 : Int32) (x3 : Int32) (x4 : Int32) (x6 : Int64) (x8 : Int64) (x10 : Int32) (x13 : Int32) (s0 : Int64) (s1 : Int64) (M : MM), D5_swells_c156 K130 K116 Q x1 x2 x3 x4 x6 x8 x10 x13 s0 s1 M → A5_swells G Q 156 [(0, .ref (gA G 62)), (1, .int x1), (2, .int x2), (3, .int x3), (4, .int x4), (6, .long x6), (8, .long x8), (10, .int x10), (13, .int x13)] [.long s0, .long s1] M := by
  intro x1 x2 x3 x4 x6 x8 x10 x13 s0 s1 M h
  unfold D5_swells_c156 at h
  refine a_lmul dX5_swells_156 ?_
  refine a_lstore (i := 11) (L' := [(11, .long _), (0, .ref _), (1, .int _), (2, .int _), (3, .int _), (4, .int _), (6, .long _), (8, .long _), (10, .int _), (13, .int _)]) dX5_swells_157 (by decide) rfl ?_
  refine a_aload_n dX5_swells_159 1 rfl ?_
  refine a_iload dX5_swells_160 8 rfl ?_
  refine a_iload dX5_swells_162 9 rfl ?_
  refine a_callSi (n := 2) [.int _, .int _] dX5_swells_164 (s5_hasBit h) (gS tbc kM_RX5_93_X5_hasBit kT_X5_hasBit kN_RX5 kC_X5_hasBit) rfl (by decide +kernel) ⟨Nat.le_of_ble_eq_true rfl, Nat.le_of_ble_eq_true rfl⟩ rfl rfl (Nat.le_of_ble_eq_true rfl) ⟨Nat.le_refl 0, Nat.le_refl 0⟩ (fun r M h => ?_)
  refine a_if_eq (tgt := 174) dX5_swells_167 (by decide) (fun c => ?_) (fun c => ?_)
  · have h := h.1 c
    refine a_iconst (v := 0) dX5_swells_174 (by decide) ?_
    refine a_sub [1, 2, 3, 4, 5, 6, 7, 8, 0, 9] rfl ?_
    exact s5_swells_c175 hK130 hK116 _ _ _ _ _ _ _ _ _ _ _ h
  · have h := h.2 c
    refine a_iconst (v := 1) dX5_swells_170 (by decide) ?_
    refine a_goto (tgt := 175) dX5_swells_171 (by decide) ?_
    refine a_sub [1, 2, 3, 4, 5, 6, 7, 8, 0, 9] rfl ?_
    exact s5_swells_c175 hK130 hK116 _ _ _ _ _ _ _ _ _ _ _ h
set_option maxHeartbeats 4000000 in
set_option maxRecDepth 100000 in
theorem s5_swells_c201 {G : GG} {K116 : Int32 → Int32 → Int32 → Int32 → Int64 → Int64 → Int32 → MM → Prop} {Q : Int64 → MM → Prop} (hK116 : ∀ (x1 : Int32) (x2 : Int32) (x3 : Int32) (x4 : Int32) (x6 : Int64) (x8 : Int64) (x10 : Int32) (M : MM), K116 x1 x2 x3 x4 x6 x8 x10 M → A5_swells G Q 116 [(0, .ref (gA G 62)), (1, .int x1), (2, .int x2), (3, .int x3), (4, .int x4), (6, .long x6), (8, .long x8), (10, .int x10)] [] M) : ∀ (x1 : Int32) (x2 : Int32) (x3 : Int32) (x4 : Int32) (x8 : Int64) (x10 : Int32) (s0 : Int64) (s1 : Int64) (M : MM), D5_swells_c201 K116 Q x1 x2 x3 x4 x8 x10 s0 s1 M → A5_swells G Q 201 [(0, .ref (gA G 62)), (1, .int x1), (2, .int x2), (3, .int x3), (4, .int x4), (8, .long x8), (10, .int x10)] [.long s0, .long s1] M := by
  intro x1 x2 x3 x4 x8 x10 s0 s1 M h
  unfold D5_swells_c201 at h
  refine a_ladd dX5_swells_201 ?_
  refine a_lstore (i := 6) (L' := [(6, .long _), (0, .ref _), (1, .int _), (2, .int _), (3, .int _), (4, .int _), (8, .long _), (10, .int _)]) dX5_swells_202 (by decide) rfl ?_
  refine a_aload_n dX5_swells_204 1 rfl ?_
  refine a_callVv (n := 0) [] (C := RX5) (ci := 3) (qc := (RX5, TX5, 40)) (fsF := fl3 G _) ob_62.1 (fun _ => en3 ob_62.2) rfl rfl dX5_swells_205 (s5_again h) (gV tbc kM_RX5_215_X5_again kI_X5_again kS_X5_again kN_RX5 kC_X5_again) rfl (by decide +kernel) ⟨Nat.le_of_ble_eq_true rfl, Nat.le_of_ble_eq_true rfl⟩ rfl rfl (Nat.le_of_ble_eq_true rfl) ⟨Nat.le_refl 0, Nat.le_refl 0⟩ (fun M h => ?_)
  refine a_iinc (L' := [(10, .int _), (6, .long _), (0, .ref _), (1, .int _), (2, .int _), (3, .int _), (4, .int _), (8, .long _)]) dX5_swells_208 7 rfl (show _ + Int32.ofInt (1 : Int) = _ + (1 : Int32) from rfl) (by decide) rfl ?_
  refine a_goto (tgt := 116) dX5_swells_211 (by decide) ?_
  refine a_sub [2, 3, 4, 5, 6, 1, 7, 0] rfl ?_
  exact hK116 _ _ _ _ _ _ _ _ h
set_option maxHeartbeats 4000000 in
set_option maxRecDepth 100000 in
theorem s5_swells_c184 {G : GG} {K116 : Int32 → Int32 → Int32 → Int32 → Int64 → Int64 → Int32 → MM → Prop} {Q : Int64 → MM → Prop} (hK116 : ∀ (x1 : Int32) (x2 : Int32) (x3 : Int32) (x4 : Int32) (x6 : Int64) (x8 : Int64) (x10 : Int32) (M : MM), K116 x1 x2 x3 x4 x6 x8 x10 M → A5_swells G Q 116 [(0, .ref (gA G 62)), (1, .int x1), (2, .int x2), (3, .int x3), (4, .int x4), (6, .long x6), (8, .long x8), (10, .int x10)] [] M) : ∀ (x1 : Int32) (x2 : Int32) (x3 : Int32) (x4 : Int32) (x6 : Int64) (x8 : Int64) (x10 : Int32) (x11 : Int64) (M : MM), D5_swells_c184 K116 Q x1 x2 x3 x4 x6 x8 x10 x11 M → A5_swells G Q 184 [(0, .ref (gA G 62)), (1, .int x1), (2, .int x2), (3, .int x3), (4, .int x4), (6, .long x6), (8, .long x8), (10, .int x10), (11, .long x11)] [] M := by
  intro x1 x2 x3 x4 x6 x8 x10 x11 M h
  unfold D5_swells_c184 at h
  refine a_lload dX5_swells_184 5 rfl ?_
  refine a_aload_n dX5_swells_186 0 rfl ?_
  refine a_get3 dX5_swells_187 5 (by decide) (tbc _ kF_RX5_22) (fun w h => tbc _ (uW3 w h)) rfl ob_62 rfl ?_
  refine a_iload_n dX5_swells_190 1 rfl ?_
  refine a_iald dX5_swells_191 h.1 ?_
  have h := h.2
  refine a_if_ne (tgt := 200) dX5_swells_192 (by decide) (fun c => ?_) (fun c => ?_)
  · have h := h.1 c
    refine a_lconst (v := 0) dX5_swells_200 (by decide) ?_
    refine a_sub [0, 1, 2, 3, 4, 6, 7] rfl ?_
    exact s5_swells_c201 hK116 _ _ _ _ _ _ _ _ _ h
  · have h := h.2 c
    refine a_lload dX5_swells_195 8 rfl ?_
    refine a_goto (tgt := 201) dX5_swells_197 (by decide) ?_
    refine a_sub [0, 1, 2, 3, 4, 6, 7] rfl ?_
    exact s5_swells_c201 hK116 _ _ _ _ _ _ _ _ _ h
set_option maxHeartbeats 4000000 in
set_option maxRecDepth 100000 in
theorem s5_swells_c130 {G : GG} {K116 : Int32 → Int32 → Int32 → Int32 → Int64 → Int64 → Int32 → MM → Prop} {Q : Int64 → MM → Prop} (hK116 : ∀ (x1 : Int32) (x2 : Int32) (x3 : Int32) (x4 : Int32) (x6 : Int64) (x8 : Int64) (x10 : Int32) (M : MM), K116 x1 x2 x3 x4 x6 x8 x10 M → A5_swells G Q 116 [(0, .ref (gA G 62)), (1, .int x1), (2, .int x2), (3, .int x3), (4, .int x4), (6, .long x6), (8, .long x8), (10, .int x10)] [] M) : ∀ (n : Nat) (x1 : Int32) (x2 : Int32) (x3 : Int32) (x4 : Int32) (x6 : Int64) (x8 : Int64) (x10 : Int32) (x11 : Int64) (x13 : Int32) (M : MM), D5_swells_c130 K116 Q n x1 x2 x3 x4 x6 x8 x10 x11 x13 M → A5_swells G Q 130 [(0, .ref (gA G 62)), (1, .int x1), (2, .int x2), (3, .int x3), (4, .int x4), (6, .long x6), (8, .long x8), (10, .int x10), (11, .long x11), (13, .int x13)] [] M := by
  intro n
  induction n with
  | zero => intro x1 x2 x3 x4 x6 x8 x10 x11 x13 M h; exact h.elim
  | succ n ih =>
    intro x1 x2 x3 x4 x6 x8 x10 x11 x13 M h
    unfold D5_swells_c130 at h
    refine a_iload dX5_swells_130 9 rfl ?_
    refine a_iload_n dX5_swells_132 2 rfl ?_
    refine a_icmp_ge (tgt := 184) dX5_swells_133 (by decide) (fun c => ?_) (fun c => ?_)
    · have h := h.1 c
      refine a_sub [0, 1, 2, 3, 4, 5, 6, 7, 8] rfl ?_
      exact s5_swells_c184 hK116 _ _ _ _ _ _ _ _ _ h
    · have h := h.2 c
      refine a_lload dX5_swells_136 8 rfl ?_
      refine a_iload dX5_swells_138 7 rfl ?_
      refine a_iload dX5_swells_140 9 rfl ?_
      refine a_callSi (n := 2) [.int _, .int _] dX5_swells_142 (s5_hasBit h) (gS tbc kM_RX5_93_X5_hasBit kT_X5_hasBit kN_RX5 kC_X5_hasBit) rfl (by decide +kernel) ⟨Nat.le_of_ble_eq_true rfl, Nat.le_of_ble_eq_true rfl⟩ rfl rfl (Nat.le_of_ble_eq_true rfl) ⟨Nat.le_refl 0, Nat.le_refl 0⟩ (fun r M h => ?_)
      refine a_if_eq (tgt := 152) dX5_swells_145 (by decide) (fun c => ?_) (fun c => ?_)
      · have h := h.1 c
        refine a_iload_n dX5_swells_152 3 rfl ?_
        refine a_iconst (v := 1) dX5_swells_153 (by decide) ?_
        refine a_isub dX5_swells_154 ?_
        refine a_i2l dX5_swells_155 ?_
        refine a_sub [0, 1, 2, 3, 4, 5, 6, 7, 9] rfl ?_
        exact s5_swells_c156 ih hK116 _ _ _ _ _ _ _ _ _ _ _ h
      · have h := h.2 c
        refine a_lconst (v := 1) dX5_swells_148 (by decide) ?_
        refine a_goto (tgt := 156) dX5_swells_149 (by decide) ?_
        refine a_sub [0, 1, 2, 3, 4, 5, 6, 7, 9] rfl ?_
        exact s5_swells_c156 ih hK116 _ _ _ _ _ _ _ _ _ _ _ h
set_option maxHeartbeats 4000000 in
set_option maxRecDepth 100000 in
theorem s5_swells_c214 {G : GG} {Q : Int64 → MM → Prop} : ∀ (x4 : Int32) (x6 : Int64) (x8 : Int64) (M : MM), D5_swells_c214 Q x4 x6 x8 M → A5_swells G Q 214 [(4, .int x4), (6, .long x6), (8, .long x8)] [] M := by
  intro x4 x6 x8 M h
  unfold D5_swells_c214 at h
  refine a_lload dX5_swells_214 1 rfl ?_
  refine a_lload dX5_swells_216 2 rfl ?_
  refine a_iload dX5_swells_218 0 rfl ?_
  refine a_callSl (n := 3) [.long _, .long _, .int _] dX5_swells_220 (s5_partOf h) (gS tbc kM_RX5_313_X5_partOf kT_X5_partOf kN_RX5 kC_X5_partOf) rfl (by decide +kernel) ⟨Nat.le_of_ble_eq_true rfl, Nat.le_of_ble_eq_true rfl⟩ rfl rfl (Nat.le_of_ble_eq_true rfl) ⟨Nat.le_refl 0, Nat.le_refl 0⟩ (fun r M h => ?_)
  exact a_lret dX5_swells_223 ⟨_, rfl, h⟩
set_option maxHeartbeats 4000000 in
set_option maxRecDepth 100000 in
theorem s5_swells_c116 {G : GG} {Q : Int64 → MM → Prop} : ∀ (n : Nat) (x1 : Int32) (x2 : Int32) (x3 : Int32) (x4 : Int32) (x6 : Int64) (x8 : Int64) (x10 : Int32) (M : MM), D5_swells_c116 Q n x1 x2 x3 x4 x6 x8 x10 M → A5_swells G Q 116 [(0, .ref (gA G 62)), (1, .int x1), (2, .int x2), (3, .int x3), (4, .int x4), (6, .long x6), (8, .long x8), (10, .int x10)] [] M := by
  intro n
  induction n with
  | zero => intro x1 x2 x3 x4 x6 x8 x10 M h; exact h.elim
  | succ n ih =>
    intro x1 x2 x3 x4 x6 x8 x10 M h
    unfold D5_swells_c116 at h
    refine a_iload dX5_swells_116 7 rfl ?_
    refine a_iconst (v := 1) dX5_swells_118 (by decide) ?_
    refine a_iload_n dX5_swells_119 2 rfl ?_
    refine a_ishl dX5_swells_120 ?_
    refine a_icmp_ge (tgt := 214) dX5_swells_121 (by decide) (fun c => ?_) (fun c => ?_)
    · have h := h.1 c
      refine a_sub [4, 5, 6] rfl ?_
      exact s5_swells_c214 _ _ _ _ h
    · have h := h.2 c
      refine a_lconst (v := 1) dX5_swells_124 (by decide) ?_
      refine a_lstore (i := 11) (L' := [(11, .long _), (0, .ref _), (1, .int _), (2, .int _), (3, .int _), (4, .int _), (6, .long _), (8, .long _), (10, .int _)]) dX5_swells_125 (by decide) rfl ?_
      refine a_iconst (v := 0) dX5_swells_127 (by decide) ?_
      refine a_istore (i := 13) (L' := [(13, .int _), (11, .long _), (0, .ref _), (1, .int _), (2, .int _), (3, .int _), (4, .int _), (6, .long _), (8, .long _), (10, .int _)]) dX5_swells_128 (by decide) rfl ?_
      refine a_sub [2, 3, 4, 5, 6, 7, 8, 9, 1, 0] rfl ?_
      exact s5_swells_c130 ih _ _ _ _ _ _ _ _ _ _ _ h
set_option maxHeartbeats 4000000 in
set_option maxRecDepth 100000 in
theorem s5_swells_c109 {G : GG} {Q : Int64 → MM → Prop} : ∀ (x1 : Int32) (x2 : Int32) (x3 : Int32) (x4 : Int32) (x6 : Int64) (x8 : Int64) (M : MM), D5_swells_c109 Q x1 x2 x3 x4 x6 x8 M → A5_swells G Q 109 [(0, .ref (gA G 62)), (1, .int x1), (2, .int x2), (3, .int x3), (4, .int x4), (6, .long x6), (8, .long x8)] [] M := by
  intro x1 x2 x3 x4 x6 x8 M h
  unfold D5_swells_c109 at h
  refine a_aload_n dX5_swells_109 0 rfl ?_
  refine a_callVv (n := 0) [] (C := RX5) (ci := 3) (qc := (RX5, TX5, 40)) (fsF := fl3 G _) ob_62.1 (fun _ => en3 ob_62.2) rfl rfl dX5_swells_110 (s5_think h) (gV tbc kM_RX5_209_X5_think kI_X5_think kS_X5_think kN_RX5 kC_X5_think) rfl (by decide +kernel) ⟨Nat.le_of_ble_eq_true rfl, Nat.le_of_ble_eq_true rfl⟩ rfl rfl (Nat.le_of_ble_eq_true rfl) ⟨Nat.le_refl 0, Nat.le_refl 0⟩ (fun M h => ?_)
  refine a_iconst (v := 0) dX5_swells_113 (by decide) ?_
  refine a_istore (i := 10) (L' := [(10, .int _), (0, .ref _), (1, .int _), (2, .int _), (3, .int _), (4, .int _), (6, .long _), (8, .long _)]) dX5_swells_114 (by decide) rfl ?_
  refine a_sub [1, 2, 3, 4, 5, 6, 7, 0] rfl ?_
  exact s5_swells_c116 _ _ _ _ _ _ _ _ _ h
set_option maxHeartbeats 4000000 in
set_option maxRecDepth 100000 in
theorem s5_swells_c90 {G : GG} {Q : Int64 → MM → Prop} : ∀ (n : Nat) (x1 : Int32) (x2 : Int32) (x3 : Int32) (x4 : Int32) (x6 : Int64) (x8 : Int64) (x10 : Int32) (M : MM), D5_swells_c90 Q n x1 x2 x3 x4 x6 x8 x10 M → A5_swells G Q 90 [(0, .ref (gA G 62)), (1, .int x1), (2, .int x2), (3, .int x3), (4, .int x4), (6, .long x6), (8, .long x8), (10, .int x10)] [] M := by
  intro n
  induction n with
  | zero => intro x1 x2 x3 x4 x6 x8 x10 M h; exact h.elim
  | succ n ih =>
    intro x1 x2 x3 x4 x6 x8 x10 M h
    unfold D5_swells_c90 at h
    refine a_iload dX5_swells_90 7 rfl ?_
    refine a_iload_n dX5_swells_92 2 rfl ?_
    refine a_icmp_ge (tgt := 109) dX5_swells_93 (by decide) (fun c => ?_) (fun c => ?_)
    · have h := h.1 c
      refine a_sub [0, 1, 2, 3, 4, 5, 6] rfl ?_
      exact s5_swells_c109 _ _ _ _ _ _ _ h
    · have h := h.2 c
      refine a_lload dX5_swells_96 6 rfl ?_
      refine a_iload_n dX5_swells_98 3 rfl ?_
      refine a_i2l dX5_swells_99 ?_
      refine a_lmul dX5_swells_100 ?_
      refine a_lstore (i := 8) (L' := [(8, .long _), (0, .ref _), (1, .int _), (2, .int _), (3, .int _), (4, .int _), (6, .long _), (10, .int _)]) dX5_swells_101 (by decide) rfl ?_
      refine a_iinc (L' := [(10, .int _), (8, .long _), (0, .ref _), (1, .int _), (2, .int _), (3, .int _), (4, .int _), (6, .long _)]) dX5_swells_103 7 rfl (show _ + Int32.ofInt (1 : Int) = _ + (1 : Int32) from rfl) (by decide) rfl ?_
      refine a_goto (tgt := 90) dX5_swells_106 (by decide) ?_
      refine a_sub [2, 3, 4, 5, 6, 7, 1, 0] rfl ?_
      exact ih _ _ _ _ _ _ _ _ h
set_option maxHeartbeats 4000000 in
set_option maxRecDepth 100000 in
theorem s5_swells_c54 {G : GG} {Q : Int64 → MM → Prop} : ∀ (x1 : Int32) (x2 : Int32) (x3 : Int32) (x4 : Int32) (x5 : Int32) (M : MM), D5_swells_c54 Q x1 x2 x3 x4 x5 M → A5_swells G Q 54 [(0, .ref (gA G 62)), (1, .int x1), (2, .int x2), (3, .int x3), (4, .int x4), (5, .int x5)] [] M := by
  intro x1 x2 x3 x4 x5 M h
  unfold D5_swells_c54 at h
  refine a_iload dX5_swells_54 5 rfl ?_
  refine a_iload dX5_swells_56 4 rfl ?_
  refine a_iconst (v := 1) dX5_swells_58 (by decide) ?_
  refine a_callSi (n := 3) [.int _, .int _, .int _] dX5_swells_59 (s5_wrongBit h) (gS tbc kM_RX5_260_X5_wrongBit kT_X5_wrongBit kN_RX5 kC_X5_wrongBit) rfl (by decide +kernel) ⟨Nat.le_of_ble_eq_true rfl, Nat.le_of_ble_eq_true rfl⟩ rfl rfl (Nat.le_of_ble_eq_true rfl) ⟨Nat.le_refl 0, Nat.le_refl 0⟩ (fun r M h => ?_)
  refine a_istore (i := 5) (L' := [(5, .int _), (0, .ref _), (1, .int _), (2, .int _), (3, .int _), (4, .int _)]) dX5_swells_62 (by decide) rfl ?_
  refine a_iload dX5_swells_64 0 rfl ?_
  refine a_if_ge (tgt := 81) dX5_swells_66 (by decide) (fun c => ?_) (fun c => ?_)
  · have h := h.1 c
    refine a_lconst (v := 0) dX5_swells_81 (by decide) ?_
    refine a_lstore (i := 6) (L' := [(6, .long _), (5, .int _), (0, .ref _), (1, .int _), (2, .int _), (3, .int _), (4, .int _)]) dX5_swells_82 (by decide) rfl ?_
    refine a_lconst (v := 1) dX5_swells_84 (by decide) ?_
    refine a_lstore (i := 8) (L' := [(8, .long _), (6, .long _), (5, .int _), (0, .ref _), (1, .int _), (2, .int _), (3, .int _), (4, .int _)]) dX5_swells_85 (by decide) rfl ?_
    refine a_iconst (v := 0) dX5_swells_87 (by decide) ?_
    refine a_istore (i := 10) (L' := [(10, .int _), (8, .long _), (6, .long _), (5, .int _), (0, .ref _), (1, .int _), (2, .int _), (3, .int _), (4, .int _)]) dX5_swells_88 (by decide) rfl ?_
    refine a_sub [4, 5, 6, 7, 8, 2, 1, 0] rfl ?_
    exact s5_swells_c90 _ _ _ _ _ _ _ _ _ h
  · have h := h.2 c
    refine a_ldc2 dX5_swells_69 (tbc _ kL_RX5_311) ?_
    refine a_aload_n dX5_swells_72 1 rfl ?_
    refine a_iload dX5_swells_73 0 rfl ?_
    refine a_callVi (n := 1) [.int _] (C := RX5) (ci := 3) (qc := (RX5, TX5, 40)) (fsF := fl3 G _) ob_62.1 (fun _ => en3 ob_62.2) rfl rfl dX5_swells_75 (s5_refuse h) (gV tbc kM_RX5_149_X5_refuse kI_X5_refuse kS_X5_refuse kN_RX5 kC_X5_refuse) rfl (by decide +kernel) ⟨Nat.le_of_ble_eq_true rfl, Nat.le_of_ble_eq_true rfl⟩ rfl rfl (Nat.le_of_ble_eq_true rfl) ⟨Nat.le_refl 0, Nat.le_refl 0⟩ (fun r M h => ?_)
    refine a_i2l dX5_swells_78 ?_
    refine a_lsub dX5_swells_79 ?_
    exact a_lret dX5_swells_80 ⟨_, rfl, h⟩
set_option maxHeartbeats 4000000 in
set_option maxRecDepth 100000 in
theorem s5_swells_c31 {G : GG} {Q : Int64 → MM → Prop} : ∀ (x1 : Int32) (x2 : Int32) (x3 : Int32) (x4 : Int32) (M : MM), D5_swells_c31 Q x1 x2 x3 x4 M → A5_swells G Q 31 [(0, .ref (gA G 62)), (1, .int x1), (2, .int x2), (3, .int x3), (4, .int x4)] [] M := by
  intro x1 x2 x3 x4 M h
  unfold D5_swells_c31 at h
  refine a_bipush (v := -4) dX5_swells_31 (by decide) ?_
  refine a_istore (i := 5) (L' := [(5, .int _), (0, .ref _), (1, .int _), (2, .int _), (3, .int _), (4, .int _)]) dX5_swells_33 (by decide) rfl ?_
  refine a_goto (tgt := 54) dX5_swells_35 (by decide) ?_
  refine a_sub [1, 2, 3, 4, 5, 0] rfl ?_
  exact s5_swells_c54 _ _ _ _ _ _ h
set_option maxHeartbeats 4000000 in
set_option maxRecDepth 100000 in
theorem s5_swells_c50 {G : GG} {Q : Int64 → MM → Prop} : ∀ (x1 : Int32) (x2 : Int32) (x3 : Int32) (x4 : Int32) (M : MM), D5_swells_c50 Q x1 x2 x3 x4 M → A5_swells G Q 50 [(0, .ref (gA G 62)), (1, .int x1), (2, .int x2), (3, .int x3), (4, .int x4)] [] M := by
  intro x1 x2 x3 x4 M h
  unfold D5_swells_c50 at h
  refine a_bipush (v := -6) dX5_swells_50 (by decide) ?_
  refine a_istore (i := 5) (L' := [(5, .int _), (0, .ref _), (1, .int _), (2, .int _), (3, .int _), (4, .int _)]) dX5_swells_52 (by decide) rfl ?_
  refine a_sub [1, 2, 3, 4, 5, 0] rfl ?_
  exact s5_swells_c54 _ _ _ _ _ _ h
set_option maxHeartbeats 4000000 in
set_option maxRecDepth 100000 in
theorem s5_swells {G : GG} {x1 : Int32} {x2 : Int32} {x3 : Int32} {x4 : Int32} {M : MM} {Q : Int64 → MM → Prop} (h : D5_swells x1 x2 x3 x4 M Q) : CM G yX5_swells (WY yX5_swells cX5_swells 14 (some .long)) 4 89 [.ref (gA G 62), .int x1, .int x2, .int x3, .int x4] M (qL Q) := by
  refine CM.of (cc := cX5_swells) (nL := 14) (ret := (some .long)) (own := RX5) (by decide +kernel) rfl rfl (Nat.le_of_ble_eq_true rfl) ?_
  show A5_swells G Q 0 [(0, .ref (gA G 62)), (1, .int x1), (2, .int x2), (3, .int x3), (4, .int x4)] [] M
  unfold D5_swells at h
  refine a_aload_n dX5_swells_0 0 rfl ?_
  refine a_iconst (v := 0) dX5_swells_1 (by decide) ?_
  refine a_put3 dX5_swells_2 9 (by decide) (tbc _ kF_RX5_73) (fun w h => tbc _ (uW3 w h)) rfl rfl rfl rfl ob_62 fs3_9 ?_
  refine a_iconst (v := 0) dX5_swells_5 (by decide) ?_
  refine a_istore (i := 5) (L' := [(5, .int _), (0, .ref _), (1, .int _), (2, .int _), (3, .int _), (4, .int _)]) dX5_swells_6 (by decide) rfl ?_
  refine a_aload_n dX5_swells_8 1 rfl ?_
  refine a_iload_n dX5_swells_9 2 rfl ?_
  refine a_callVi (n := 1) [.int _] (C := RX5) (ci := 3) (qc := (RX5, TX5, 40)) (fsF := fl3 G _) ob_62.1 (fun _ => en3 ob_62.2) rfl rfl dX5_swells_10 (s5_isWork h) (gV tbc kM_RX5_182_X5_isWork kI_X5_isWork kS_X5_isWork kN_RX5 kC_X5_isWork) rfl (by decide +kernel) ⟨Nat.le_of_ble_eq_true rfl, Nat.le_of_ble_eq_true rfl⟩ rfl rfl (Nat.le_of_ble_eq_true rfl) ⟨Nat.le_refl 0, Nat.le_refl 0⟩ (fun r M h => ?_)
  refine a_if_ne (tgt := 22) dX5_swells_13 (by decide) (fun c => ?_) (fun c => ?_)
  · have h := h.1 c
    refine a_iload_n dX5_swells_22 3 rfl ?_
    refine a_if_lt (tgt := 31) dX5_swells_23 (by decide) (fun c => ?_) (fun c => ?_)
    · have h := h.1 c
      refine a_sub [1, 2, 3, 4, 5] rfl ?_
      exact s5_swells_c31 _ _ _ _ _ h
    · have h := h.2 c
      refine a_iload_n dX5_swells_26 4 rfl ?_
      refine a_iconst (v := 2) dX5_swells_27 (by decide) ?_
      refine a_icmp_ge (tgt := 38) dX5_swells_28 (by decide) (fun c => ?_) (fun c => ?_)
      · have h := h.1 c
        refine a_iload_n dX5_swells_38 3 rfl ?_
        refine a_bipush (v := 7) dX5_swells_39 (by decide) ?_
        refine a_icmp_gt (tgt := 50) dX5_swells_41 (by decide) (fun c => ?_) (fun c => ?_)
        · have h := h.1 c
          refine a_sub [1, 2, 3, 4, 5] rfl ?_
          exact s5_swells_c50 _ _ _ _ _ h
        · have h := h.2 c
          refine a_iload_n dX5_swells_44 4 rfl ?_
          refine a_bipush (v := 20) dX5_swells_45 (by decide) ?_
          refine a_icmp_le (tgt := 54) dX5_swells_47 (by decide) (fun c => ?_) (fun c => ?_)
          · have h := h.1 c
            refine a_sub [1, 2, 3, 4, 5, 0] rfl ?_
            exact s5_swells_c54 _ _ _ _ _ _ h
          · have h := h.2 c
            refine a_sub [1, 2, 3, 4, 5] rfl ?_
            exact s5_swells_c50 _ _ _ _ _ h
      · have h := h.2 c
        refine a_sub [1, 2, 3, 4, 5] rfl ?_
        exact s5_swells_c31 _ _ _ _ _ h
  · have h := h.2 c
    refine a_iconst (v := -1) dX5_swells_16 (by decide) ?_
    refine a_istore (i := 5) (L' := [(5, .int _), (0, .ref _), (1, .int _), (2, .int _), (3, .int _), (4, .int _)]) dX5_swells_17 (by decide) rfl ?_
    refine a_goto (tgt := 54) dX5_swells_19 (by decide) ?_
    refine a_sub [1, 2, 3, 4, 5, 0] rfl ?_
    exact s5_swells_c54 _ _ _ _ _ _ h

/-! X5_then -/
theorem dX5_then_0 : decode cX5_then 0 = .ok (.aload_n 0, 1) := by decide +kernel
theorem dX5_then_1 : decode cX5_then 1 = .ok (.iconst 0, 1) := by decide +kernel
theorem dX5_then_2 : decode cX5_then 2 = .ok (.putfield 73, 3) := by decide +kernel
theorem dX5_then_5 : decode cX5_then 5 = .ok (.iload_n 1, 1) := by decide +kernel
theorem dX5_then_6 : decode cX5_then 6 = .ok (.iconst 0, 1) := by decide +kernel
theorem dX5_then_7 : decode cX5_then 7 = .ok (.bipush 60, 2) := by decide +kernel
theorem dX5_then_9 : decode cX5_then 9 = .ok (.invokestatic 244, 3) := by decide +kernel
theorem dX5_then_12 : decode cX5_then 12 = .ok (.iload_n 2, 1) := by decide +kernel
theorem dX5_then_13 : decode cX5_then 13 = .ok (.iconst 2, 1) := by decide +kernel
theorem dX5_then_14 : decode cX5_then 14 = .ok (.invokestatic 260, 3) := by decide +kernel
theorem dX5_then_17 : decode cX5_then 17 = .ok (.istore_n 3, 1) := by decide +kernel
theorem dX5_then_18 : decode cX5_then 18 = .ok (.iload_n 3, 1) := by decide +kernel
theorem dX5_then_19 : decode cX5_then 19 = .ok (.ifCond .ge 9, 3) := by decide +kernel
theorem dX5_then_22 : decode cX5_then 22 = .ok (.aload_n 0, 1) := by decide +kernel
theorem dX5_then_23 : decode cX5_then 23 = .ok (.iload_n 3, 1) := by decide +kernel
theorem dX5_then_24 : decode cX5_then 24 = .ok (.invokevirtual 149, 3) := by decide +kernel
theorem dX5_then_27 : decode cX5_then 27 = .ok (.ireturn, 1) := by decide +kernel
theorem dX5_then_28 : decode cX5_then 28 = .ok (.aload_n 0, 1) := by decide +kernel
theorem dX5_then_29 : decode cX5_then 29 = .ok (.invokevirtual 209, 3) := by decide +kernel
theorem dX5_then_32 : decode cX5_then 32 = .ok (.aload_n 0, 1) := by decide +kernel
theorem dX5_then_33 : decode cX5_then 33 = .ok (.iload_n 1, 1) := by decide +kernel
theorem dX5_then_34 : decode cX5_then 34 = .ok (.invokevirtual 200, 3) := by decide +kernel
theorem dX5_then_37 : decode cX5_then 37 = .ok (.iload_n 2, 1) := by decide +kernel
theorem dX5_then_38 : decode cX5_then 38 = .ok (.ifCond .ne 10, 3) := by decide +kernel
theorem dX5_then_41 : decode cX5_then 41 = .ok (.aload_n 0, 1) := by decide +kernel
theorem dX5_then_42 : decode cX5_then 42 = .ok (.invokevirtual 251, 3) := by decide +kernel
theorem dX5_then_45 : decode cX5_then 45 = .ok (.goto 19, 3) := by decide +kernel
theorem dX5_then_48 : decode cX5_then 48 = .ok (.iload_n 2, 1) := by decide +kernel
theorem dX5_then_49 : decode cX5_then 49 = .ok (.iconst 1, 1) := by decide +kernel
theorem dX5_then_50 : decode cX5_then 50 = .ok (.if_icmp .ne 10, 3) := by decide +kernel
theorem dX5_then_53 : decode cX5_then 53 = .ok (.aload_n 0, 1) := by decide +kernel
theorem dX5_then_54 : decode cX5_then 54 = .ok (.getfield 131, 3) := by decide +kernel
theorem dX5_then_57 : decode cX5_then 57 = .ok (.goto 7, 3) := by decide +kernel
theorem dX5_then_60 : decode cX5_then 60 = .ok (.aload_n 0, 1) := by decide +kernel
theorem dX5_then_61 : decode cX5_then 61 = .ok (.getfield 137, 3) := by decide +kernel
theorem dX5_then_64 : decode cX5_then 64 = .ok (.istore 4, 2) := by decide +kernel
theorem dX5_then_66 : decode cX5_then 66 = .ok (.aload_n 0, 1) := by decide +kernel
theorem dX5_then_67 : decode cX5_then 67 = .ok (.invokevirtual 215, 3) := by decide +kernel
theorem dX5_then_70 : decode cX5_then 70 = .ok (.iload 4, 2) := by decide +kernel
theorem dX5_then_72 : decode cX5_then 72 = .ok (.ireturn, 1) := by decide +kernel
abbrev A5_then (G : GG) (Q : Int32 → MM → Prop) := AW G E0 (MZ G (qI Q)) (WY yX5_then cX5_then 5 (some .int)) RX5 cX5_then 5 (some .int) ({ frames := 5, cells := 0, slots := 0, locals := 111 } : Room) 0 0
def D5_then_c64 (Q : Int32 → MM → Prop) (s0 : Int32) (M : MM) : Prop := D5_again M (fun (M15 : MM) => Q s0 M15)
def D5_then (x1 : Int32) (x2 : Int32) (M : MM) (Q : Int32 → MM → Prop) : Prop := (fun M1 : MM => D5_wrongNumber x1 (0 : Int32) (60 : Int32) M1 (fun (r2 : Int32) (M3 : MM) => D5_wrongBit r2 x2 (2 : Int32) M3 (fun (r4 : Int32) (M5 : MM) => ((0 ≤ r4 → D5_think M5 (fun (M7 : MM) => D5_goHours x1 M7 (fun (M9 : MM) => ((x2 ≠ 0 → ((x2 ≠ (1 : Int32) → D5_then_c64 Q (M9 62 7) M9) ∧ (x2 = (1 : Int32) → D5_then_c64 Q (M9 62 6) M9))) ∧ (x2 = 0 → D5_standing M9 (fun (r10 : Int32) (M11 : MM) => D5_then_c64 Q r10 M11)))))) ∧ (¬ 0 ≤ r4 → D5_refuse r4 M5 (fun (r12 : Int32) (M13 : MM) => Q r12 M13)))))) (up M 62 9 (0 : Int32))
set_option maxHeartbeats 4000000 in
set_option maxRecDepth 100000 in
theorem s5_then_c64 {G : GG} {Q : Int32 → MM → Prop} : ∀ (s0 : Int32) (M : MM), D5_then_c64 Q s0 M → A5_then G Q 64 [(0, .ref (gA G 62))] [.int s0] M := by
  intro s0 M h
  unfold D5_then_c64 at h
  refine a_istore (i := 4) (L' := [(4, .int _), (0, .ref _)]) dX5_then_64 (by decide) rfl ?_
  refine a_aload_n dX5_then_66 1 rfl ?_
  refine a_callVv (n := 0) [] (C := RX5) (ci := 3) (qc := (RX5, TX5, 40)) (fsF := fl3 G _) ob_62.1 (fun _ => en3 ob_62.2) rfl rfl dX5_then_67 (s5_again h) (gV tbc kM_RX5_215_X5_again kI_X5_again kS_X5_again kN_RX5 kC_X5_again) rfl (by decide +kernel) ⟨Nat.le_of_ble_eq_true rfl, Nat.le_of_ble_eq_true rfl⟩ rfl rfl (Nat.le_of_ble_eq_true rfl) ⟨Nat.le_refl 0, Nat.le_refl 0⟩ (fun M h => ?_)
  refine a_iload dX5_then_70 0 rfl ?_
  exact a_iret dX5_then_72 ⟨_, rfl, h⟩
set_option maxHeartbeats 4000000 in
set_option maxRecDepth 100000 in
theorem s5_then {G : GG} {x1 : Int32} {x2 : Int32} {M : MM} {Q : Int32 → MM → Prop} (h : D5_then x1 x2 M Q) : CM G yX5_then (WY yX5_then cX5_then 5 (some .int)) 5 111 [.ref (gA G 62), .int x1, .int x2] M (qI Q) := by
  refine CM.of (cc := cX5_then) (nL := 5) (ret := (some .int)) (own := RX5) (by decide +kernel) rfl rfl (Nat.le_of_ble_eq_true rfl) ?_
  show A5_then G Q 0 [(0, .ref (gA G 62)), (1, .int x1), (2, .int x2)] [] M
  unfold D5_then at h
  refine a_aload_n dX5_then_0 0 rfl ?_
  refine a_iconst (v := 0) dX5_then_1 (by decide) ?_
  refine a_put3 dX5_then_2 9 (by decide) (tbc _ kF_RX5_73) (fun w h => tbc _ (uW3 w h)) rfl rfl rfl rfl ob_62 fs3_9 ?_
  refine a_iload_n dX5_then_5 1 rfl ?_
  refine a_iconst (v := 0) dX5_then_6 (by decide) ?_
  refine a_bipush (v := 60) dX5_then_7 (by decide) ?_
  refine a_callSi (n := 3) [.int _, .int _, .int _] dX5_then_9 (s5_wrongNumber h) (gS tbc kM_RX5_244_X5_wrongNumber kT_X5_wrongNumber kN_RX5 kC_X5_wrongNumber) rfl (by decide +kernel) ⟨Nat.le_of_ble_eq_true rfl, Nat.le_of_ble_eq_true rfl⟩ rfl rfl (Nat.le_of_ble_eq_true rfl) ⟨Nat.le_refl 0, Nat.le_refl 0⟩ (fun r M h => ?_)
  refine a_iload_n dX5_then_12 2 rfl ?_
  refine a_iconst (v := 2) dX5_then_13 (by decide) ?_
  refine a_callSi (n := 3) [.int _, .int _, .int _] dX5_then_14 (s5_wrongBit h) (gS tbc kM_RX5_260_X5_wrongBit kT_X5_wrongBit kN_RX5 kC_X5_wrongBit) rfl (by decide +kernel) ⟨Nat.le_of_ble_eq_true rfl, Nat.le_of_ble_eq_true rfl⟩ rfl rfl (Nat.le_of_ble_eq_true rfl) ⟨Nat.le_refl 0, Nat.le_refl 0⟩ (fun r M h => ?_)
  refine a_istore_n (i := 3) (L' := [(3, .int _), (0, .ref _), (1, .int _), (2, .int _)]) dX5_then_17 rfl (by decide) rfl ?_
  refine a_iload_n dX5_then_18 0 rfl ?_
  refine a_if_ge (tgt := 28) dX5_then_19 (by decide) (fun c => ?_) (fun c => ?_)
  · have h := h.1 c
    refine a_aload_n dX5_then_28 1 rfl ?_
    refine a_callVv (n := 0) [] (C := RX5) (ci := 3) (qc := (RX5, TX5, 40)) (fsF := fl3 G _) ob_62.1 (fun _ => en3 ob_62.2) rfl rfl dX5_then_29 (s5_think h) (gV tbc kM_RX5_209_X5_think kI_X5_think kS_X5_think kN_RX5 kC_X5_think) rfl (by decide +kernel) ⟨Nat.le_of_ble_eq_true rfl, Nat.le_of_ble_eq_true rfl⟩ rfl rfl (Nat.le_of_ble_eq_true rfl) ⟨Nat.le_refl 0, Nat.le_refl 0⟩ (fun M h => ?_)
    refine a_aload_n dX5_then_32 1 rfl ?_
    refine a_iload_n dX5_then_33 2 rfl ?_
    refine a_callVv (n := 1) [.int _] (C := RX5) (ci := 3) (qc := (RX5, TX5, 40)) (fsF := fl3 G _) ob_62.1 (fun _ => en3 ob_62.2) rfl rfl dX5_then_34 (s5_goHours h) (gV tbc kM_RX5_200_X5_goHours kI_X5_goHours kS_X5_goHours kN_RX5 kC_X5_goHours) rfl (by decide +kernel) ⟨Nat.le_of_ble_eq_true rfl, Nat.le_of_ble_eq_true rfl⟩ rfl rfl (Nat.le_of_ble_eq_true rfl) ⟨Nat.le_refl 0, Nat.le_refl 0⟩ (fun M h => ?_)
    refine a_iload_n dX5_then_37 3 rfl ?_
    refine a_if_ne (tgt := 48) dX5_then_38 (by decide) (fun c => ?_) (fun c => ?_)
    · have h := h.1 c
      refine a_iload_n dX5_then_48 3 rfl ?_
      refine a_iconst (v := 1) dX5_then_49 (by decide) ?_
      refine a_icmp_ne (tgt := 60) dX5_then_50 (by decide) (fun c => ?_) (fun c => ?_)
      · have h := h.1 c
        refine a_aload_n dX5_then_60 1 rfl ?_
        refine a_get3 dX5_then_61 7 (by decide) (tbc _ kF_RX5_137) (fun w h => tbc _ (uW3 w h)) rfl ob_62 rfl ?_
        refine a_sub [1] rfl ?_
        exact s5_then_c64 _ _ h
      · have h := h.2 c
        refine a_aload_n dX5_then_53 1 rfl ?_
        refine a_get3 dX5_then_54 6 (by decide) (tbc _ kF_RX5_131) (fun w h => tbc _ (uW3 w h)) rfl ob_62 rfl ?_
        refine a_goto (tgt := 64) dX5_then_57 (by decide) ?_
        refine a_sub [1] rfl ?_
        exact s5_then_c64 _ _ h
    · have h := h.2 c
      refine a_aload_n dX5_then_41 1 rfl ?_
      refine a_callVi (n := 0) [] (C := RX5) (ci := 3) (qc := (RX5, TX5, 40)) (fsF := fl3 G _) ob_62.1 (fun _ => en3 ob_62.2) rfl rfl dX5_then_42 (s5_standing h) (gV tbc kM_RX5_251_X5_standing kI_X5_standing kS_X5_standing kN_RX5 kC_X5_standing) rfl (by decide +kernel) ⟨Nat.le_of_ble_eq_true rfl, Nat.le_of_ble_eq_true rfl⟩ rfl rfl (Nat.le_of_ble_eq_true rfl) ⟨Nat.le_refl 0, Nat.le_refl 0⟩ (fun r M h => ?_)
      refine a_goto (tgt := 64) dX5_then_45 (by decide) ?_
      refine a_sub [1] rfl ?_
      exact s5_then_c64 _ _ h
  · have h := h.2 c
    refine a_aload_n dX5_then_22 1 rfl ?_
    refine a_iload_n dX5_then_23 0 rfl ?_
    refine a_callVi (n := 1) [.int _] (C := RX5) (ci := 3) (qc := (RX5, TX5, 40)) (fsF := fl3 G _) ob_62.1 (fun _ => en3 ob_62.2) rfl rfl dX5_then_24 (s5_refuse h) (gV tbc kM_RX5_149_X5_refuse kI_X5_refuse kS_X5_refuse kN_RX5 kC_X5_refuse) rfl (by decide +kernel) ⟨Nat.le_of_ble_eq_true rfl, Nat.le_of_ble_eq_true rfl⟩ rfl rfl (Nat.le_of_ble_eq_true rfl) ⟨Nat.le_refl 0, Nat.le_refl 0⟩ (fun r M h => ?_)
    exact a_iret dX5_then_27 ⟨_, rfl, h⟩

/-! X5_turrets -/
theorem dX5_turrets_0 : decode cX5_turrets 0 = .ok (.aload_n 0, 1) := by decide +kernel
theorem dX5_turrets_1 : decode cX5_turrets 1 = .ok (.iconst 0, 1) := by decide +kernel
theorem dX5_turrets_2 : decode cX5_turrets 2 = .ok (.putfield 73, 3) := by decide +kernel
theorem dX5_turrets_5 : decode cX5_turrets 5 = .ok (.iload_n 1, 1) := by decide +kernel
theorem dX5_turrets_6 : decode cX5_turrets 6 = .ok (.i2l, 1) := by decide +kernel
theorem dX5_turrets_7 : decode cX5_turrets 7 = .ok (.lconst 0, 1) := by decide +kernel
theorem dX5_turrets_8 : decode cX5_turrets 8 = .ok (.ldc2_w 242, 3) := by decide +kernel
theorem dX5_turrets_11 : decode cX5_turrets 11 = .ok (.invokestatic 80, 3) := by decide +kernel
theorem dX5_turrets_14 : decode cX5_turrets 14 = .ok (.ifCond .ne 10, 3) := by decide +kernel
theorem dX5_turrets_17 : decode cX5_turrets 17 = .ok (.aload_n 0, 1) := by decide +kernel
theorem dX5_turrets_18 : decode cX5_turrets 18 = .ok (.bipush (-2), 2) := by decide +kernel
theorem dX5_turrets_20 : decode cX5_turrets 20 = .ok (.invokevirtual 149, 3) := by decide +kernel
theorem dX5_turrets_23 : decode cX5_turrets 23 = .ok (.ireturn, 1) := by decide +kernel
theorem dX5_turrets_24 : decode cX5_turrets 24 = .ok (.iconst 0, 1) := by decide +kernel
theorem dX5_turrets_25 : decode cX5_turrets 25 = .ok (.istore_n 2, 1) := by decide +kernel
theorem dX5_turrets_26 : decode cX5_turrets 26 = .ok (.iconst 0, 1) := by decide +kernel
theorem dX5_turrets_27 : decode cX5_turrets 27 = .ok (.istore_n 3, 1) := by decide +kernel
theorem dX5_turrets_28 : decode cX5_turrets 28 = .ok (.iload_n 3, 1) := by decide +kernel
theorem dX5_turrets_29 : decode cX5_turrets 29 = .ok (.aload_n 0, 1) := by decide +kernel
theorem dX5_turrets_30 : decode cX5_turrets 30 = .ok (.getfield 77, 3) := by decide +kernel
theorem dX5_turrets_33 : decode cX5_turrets 33 = .ok (.if_icmp .ge 36, 3) := by decide +kernel
theorem dX5_turrets_36 : decode cX5_turrets 36 = .ok (.iload_n 2, 1) := by decide +kernel
theorem dX5_turrets_37 : decode cX5_turrets 37 = .ok (.aload_n 0, 1) := by decide +kernel
theorem dX5_turrets_38 : decode cX5_turrets 38 = .ok (.getfield 22, 3) := by decide +kernel
theorem dX5_turrets_41 : decode cX5_turrets 41 = .ok (.iload_n 3, 1) := by decide +kernel
theorem dX5_turrets_42 : decode cX5_turrets 42 = .ok (.iaload, 1) := by decide +kernel
theorem dX5_turrets_43 : decode cX5_turrets 43 = .ok (.ifCond .ne 17, 3) := by decide +kernel
theorem dX5_turrets_46 : decode cX5_turrets 46 = .ok (.aload_n 0, 1) := by decide +kernel
theorem dX5_turrets_47 : decode cX5_turrets 47 = .ok (.getfield 7, 3) := by decide +kernel
theorem dX5_turrets_50 : decode cX5_turrets 50 = .ok (.iload_n 3, 1) := by decide +kernel
theorem dX5_turrets_51 : decode cX5_turrets 51 = .ok (.iaload, 1) := by decide +kernel
theorem dX5_turrets_52 : decode cX5_turrets 52 = .ok (.iload_n 1, 1) := by decide +kernel
theorem dX5_turrets_53 : decode cX5_turrets 53 = .ok (.if_icmp .ne 7, 3) := by decide +kernel
theorem dX5_turrets_56 : decode cX5_turrets 56 = .ok (.iconst 1, 1) := by decide +kernel
theorem dX5_turrets_57 : decode cX5_turrets 57 = .ok (.goto 4, 3) := by decide +kernel
theorem dX5_turrets_60 : decode cX5_turrets 60 = .ok (.iconst 0, 1) := by decide +kernel
theorem dX5_turrets_61 : decode cX5_turrets 61 = .ok (.iadd, 1) := by decide +kernel
theorem dX5_turrets_62 : decode cX5_turrets 62 = .ok (.istore_n 2, 1) := by decide +kernel
theorem dX5_turrets_63 : decode cX5_turrets 63 = .ok (.iinc 3 1, 3) := by decide +kernel
theorem dX5_turrets_66 : decode cX5_turrets 66 = .ok (.goto (-38), 3) := by decide +kernel
theorem dX5_turrets_69 : decode cX5_turrets 69 = .ok (.iload_n 2, 1) := by decide +kernel
theorem dX5_turrets_70 : decode cX5_turrets 70 = .ok (.ireturn, 1) := by decide +kernel
abbrev A5_turrets (G : GG) (Q : Int32 → MM → Prop) := AW G E0 (MZ G (qI Q)) (WY yX5_turrets cX5_turrets 4 (some .int)) RX5 cX5_turrets 4 (some .int) ({ frames := 1, cells := 0, slots := 0, locals := 25 } : Room) 0 0
def D5_turrets_c61 (K28 : Int32 → Int32 → Int32 → MM → Prop) (Q : Int32 → MM → Prop) (x1 : Int32) (x3 : Int32) (s0 : Int32) (s1 : Int32) (M : MM) : Prop := (fun v6 : Int32 => (fun v7 : Int32 => K28 x1 v6 v7 M) (x3 + (1 : Int32))) (s1 + s0)
def D5_turrets_c60 (K28 : Int32 → Int32 → Int32 → MM → Prop) (Q : Int32 → MM → Prop) (x1 : Int32) (x3 : Int32) (s0 : Int32) (M : MM) : Prop := D5_turrets_c61 K28 Q x1 x3 (0 : Int32) s0 M
def D5_turrets_c28 (Q : Int32 → MM → Prop) : Nat → Int32 → Int32 → Int32 → MM → Prop
  | 0, _, _, _, _ => False
  | n + 1, x1, x2, x3, M => (((M 62 0) ≤ x3 → Q x2 M) ∧ (¬ (M 62 0) ≤ x3 → ib 67 x3 ∧ (((M 67 (ix x3)) ≠ 0 → D5_turrets_c60 (D5_turrets_c28 Q n) Q x1 x3 x2 M) ∧ ((M 67 (ix x3)) = 0 → ib 63 x3 ∧ (((M 63 (ix x3)) ≠ x1 → D5_turrets_c60 (D5_turrets_c28 Q n) Q x1 x3 x2 M) ∧ ((M 63 (ix x3)) = x1 → D5_turrets_c61 (D5_turrets_c28 Q n) Q x1 x3 (1 : Int32) x2 M))))))
def D5_turrets (x1 : Int32) (M : MM) (Q : Int32 → MM → Prop) : Prop := (fun M1 : MM => D5_in x1.toInt64 (0 : Int64) (5 : Int64) M1 (fun (r2 : Int32) (M3 : MM) => ((r2 ≠ 0 → D5_turrets_c28 Q FU x1 (0 : Int32) (0 : Int32) M3) ∧ (r2 = 0 → D5_refuse (-2 : Int32) M3 (fun (r4 : Int32) (M5 : MM) => Q r4 M5))))) (up M 62 9 (0 : Int32))
set_option maxHeartbeats 4000000 in
set_option maxRecDepth 100000 in
theorem s5_turrets_c61 {G : GG} {K28 : Int32 → Int32 → Int32 → MM → Prop} {Q : Int32 → MM → Prop} (hK28 : ∀ (x1 : Int32) (x2 : Int32) (x3 : Int32) (M : MM), K28 x1 x2 x3 M → A5_turrets G Q 28 [(0, .ref (gA G 62)), (1, .int x1), (2, .int x2), (3, .int x3)] [] M) : ∀ (x1 : Int32) (x3 : Int32) (s0 : Int32) (s1 : Int32) (M : MM), D5_turrets_c61 K28 Q x1 x3 s0 s1 M → A5_turrets G Q 61 [(0, .ref (gA G 62)), (1, .int x1), (3, .int x3)] [.int s0, .int s1] M := by
  intro x1 x3 s0 s1 M h
  unfold D5_turrets_c61 at h
  refine a_iadd dX5_turrets_61 ?_
  refine a_istore_n (i := 2) (L' := [(2, .int _), (0, .ref _), (1, .int _), (3, .int _)]) dX5_turrets_62 rfl (by decide) rfl ?_
  refine a_iinc (L' := [(3, .int _), (2, .int _), (0, .ref _), (1, .int _)]) dX5_turrets_63 3 rfl (show _ + Int32.ofInt (1 : Int) = _ + (1 : Int32) from rfl) (by decide) rfl ?_
  refine a_goto (tgt := 28) dX5_turrets_66 (by decide) ?_
  refine a_sub [2, 3, 1, 0] rfl ?_
  exact hK28 _ _ _ _ h
set_option maxHeartbeats 4000000 in
set_option maxRecDepth 100000 in
theorem s5_turrets_c60 {G : GG} {K28 : Int32 → Int32 → Int32 → MM → Prop} {Q : Int32 → MM → Prop} (hK28 : ∀ (x1 : Int32) (x2 : Int32) (x3 : Int32) (M : MM), K28 x1 x2 x3 M → A5_turrets G Q 28 [(0, .ref (gA G 62)), (1, .int x1), (2, .int x2), (3, .int x3)] [] M) : ∀ (x1 : Int32) (x3 : Int32) (s0 : Int32) (M : MM), D5_turrets_c60 K28 Q x1 x3 s0 M → A5_turrets G Q 60 [(0, .ref (gA G 62)), (1, .int x1), (3, .int x3)] [.int s0] M := by
  intro x1 x3 s0 M h
  unfold D5_turrets_c60 at h
  refine a_iconst (v := 0) dX5_turrets_60 (by decide) ?_
  refine a_sub [0, 1, 2] rfl ?_
  exact s5_turrets_c61 hK28 _ _ _ _ _ h
set_option maxHeartbeats 4000000 in
set_option maxRecDepth 100000 in
theorem s5_turrets_c28 {G : GG} {Q : Int32 → MM → Prop} : ∀ (n : Nat) (x1 : Int32) (x2 : Int32) (x3 : Int32) (M : MM), D5_turrets_c28 Q n x1 x2 x3 M → A5_turrets G Q 28 [(0, .ref (gA G 62)), (1, .int x1), (2, .int x2), (3, .int x3)] [] M := by
  intro n
  induction n with
  | zero => intro x1 x2 x3 M h; exact h.elim
  | succ n ih =>
    intro x1 x2 x3 M h
    unfold D5_turrets_c28 at h
    refine a_iload_n dX5_turrets_28 3 rfl ?_
    refine a_aload_n dX5_turrets_29 0 rfl ?_
    refine a_get3 dX5_turrets_30 0 (by decide) (tbc _ kF_RX5_77) (fun w h => tbc _ (uW3 w h)) rfl ob_62 rfl ?_
    refine a_icmp_ge (tgt := 69) dX5_turrets_33 (by decide) (fun c => ?_) (fun c => ?_)
    · have h := h.1 c
      refine a_iload_n dX5_turrets_69 2 rfl ?_
      exact a_iret dX5_turrets_70 ⟨_, rfl, h⟩
    · have h := h.2 c
      refine a_iload_n dX5_turrets_36 2 rfl ?_
      refine a_aload_n dX5_turrets_37 0 rfl ?_
      refine a_get3 dX5_turrets_38 5 (by decide) (tbc _ kF_RX5_22) (fun w h => tbc _ (uW3 w h)) rfl ob_62 rfl ?_
      refine a_iload_n dX5_turrets_41 3 rfl ?_
      refine a_iald dX5_turrets_42 h.1 ?_
      have h := h.2
      refine a_if_ne (tgt := 60) dX5_turrets_43 (by decide) (fun c => ?_) (fun c => ?_)
      · have h := h.1 c
        refine a_sub [0, 1, 3] rfl ?_
        exact s5_turrets_c60 ih _ _ _ _ h
      · have h := h.2 c
        refine a_aload_n dX5_turrets_46 0 rfl ?_
        refine a_get3 dX5_turrets_47 1 (by decide) (tbc _ kF_RX5_7) (fun w h => tbc _ (uW3 w h)) rfl ob_62 rfl ?_
        refine a_iload_n dX5_turrets_50 3 rfl ?_
        refine a_iald dX5_turrets_51 h.1 ?_
        have h := h.2
        refine a_iload_n dX5_turrets_52 1 rfl ?_
        refine a_icmp_ne (tgt := 60) dX5_turrets_53 (by decide) (fun c => ?_) (fun c => ?_)
        · have h := h.1 c
          refine a_sub [0, 1, 3] rfl ?_
          exact s5_turrets_c60 ih _ _ _ _ h
        · have h := h.2 c
          refine a_iconst (v := 1) dX5_turrets_56 (by decide) ?_
          refine a_goto (tgt := 61) dX5_turrets_57 (by decide) ?_
          refine a_sub [0, 1, 3] rfl ?_
          exact s5_turrets_c61 ih _ _ _ _ _ h
set_option maxHeartbeats 4000000 in
set_option maxRecDepth 100000 in
theorem s5_turrets {G : GG} {x1 : Int32} {M : MM} {Q : Int32 → MM → Prop} (h : D5_turrets x1 M Q) : CM G yX5_turrets (WY yX5_turrets cX5_turrets 4 (some .int)) 1 25 [.ref (gA G 62), .int x1] M (qI Q) := by
  refine CM.of (cc := cX5_turrets) (nL := 4) (ret := (some .int)) (own := RX5) (by decide +kernel) rfl rfl (Nat.le_of_ble_eq_true rfl) ?_
  show A5_turrets G Q 0 [(0, .ref (gA G 62)), (1, .int x1)] [] M
  unfold D5_turrets at h
  refine a_aload_n dX5_turrets_0 0 rfl ?_
  refine a_iconst (v := 0) dX5_turrets_1 (by decide) ?_
  refine a_put3 dX5_turrets_2 9 (by decide) (tbc _ kF_RX5_73) (fun w h => tbc _ (uW3 w h)) rfl rfl rfl rfl ob_62 fs3_9 ?_
  refine a_iload_n dX5_turrets_5 1 rfl ?_
  refine a_i2l dX5_turrets_6 ?_
  refine a_lconst (v := 0) dX5_turrets_7 (by decide) ?_
  refine a_ldc2 dX5_turrets_8 (tbc _ kL_RX5_242) ?_
  refine a_callSi (n := 3) [.long _, .long _, .long _] dX5_turrets_11 (s5_in h) (gS tbc kM_RX5_80_X5_in kT_X5_in kN_RX5 kC_X5_in) rfl (by decide +kernel) ⟨Nat.le_of_ble_eq_true rfl, Nat.le_of_ble_eq_true rfl⟩ rfl rfl (Nat.le_of_ble_eq_true rfl) ⟨Nat.le_refl 0, Nat.le_refl 0⟩ (fun r M h => ?_)
  refine a_if_ne (tgt := 24) dX5_turrets_14 (by decide) (fun c => ?_) (fun c => ?_)
  · have h := h.1 c
    refine a_iconst (v := 0) dX5_turrets_24 (by decide) ?_
    refine a_istore_n (i := 2) (L' := [(2, .int _), (0, .ref _), (1, .int _)]) dX5_turrets_25 rfl (by decide) rfl ?_
    refine a_iconst (v := 0) dX5_turrets_26 (by decide) ?_
    refine a_istore_n (i := 3) (L' := [(3, .int _), (2, .int _), (0, .ref _), (1, .int _)]) dX5_turrets_27 rfl (by decide) rfl ?_
    refine a_sub [2, 3, 1, 0] rfl ?_
    exact s5_turrets_c28 _ _ _ _ _ h
  · have h := h.2 c
    refine a_aload_n dX5_turrets_17 0 rfl ?_
    refine a_bipush (v := -2) dX5_turrets_18 (by decide) ?_
    refine a_callVi (n := 1) [.int _] (C := RX5) (ci := 3) (qc := (RX5, TX5, 40)) (fsF := fl3 G _) ob_62.1 (fun _ => en3 ob_62.2) rfl rfl dX5_turrets_20 (s5_refuse h) (gV tbc kM_RX5_149_X5_refuse kI_X5_refuse kS_X5_refuse kN_RX5 kC_X5_refuse) rfl (by decide +kernel) ⟨Nat.le_of_ble_eq_true rfl, Nat.le_of_ble_eq_true rfl⟩ rfl rfl (Nat.le_of_ble_eq_true rfl) ⟨Nat.le_refl 0, Nat.le_refl 0⟩ (fun r M h => ?_)
    exact a_iret dX5_turrets_23 ⟨_, rfl, h⟩

/-! X5_two -/
theorem dX5_two_0 : decode cX5_two 0 = .ok (.aload_n 0, 1) := by decide +kernel
theorem dX5_two_1 : decode cX5_two 1 = .ok (.iconst 0, 1) := by decide +kernel
theorem dX5_two_2 : decode cX5_two 2 = .ok (.putfield 73, 3) := by decide +kernel
theorem dX5_two_5 : decode cX5_two 5 = .ok (.aload_n 0, 1) := by decide +kernel
theorem dX5_two_6 : decode cX5_two 6 = .ok (.iload_n 1, 1) := by decide +kernel
theorem dX5_two_7 : decode cX5_two 7 = .ok (.invokevirtual 182, 3) := by decide +kernel
theorem dX5_two_10 : decode cX5_two 10 = .ok (.ifCond .eq 20, 3) := by decide +kernel
theorem dX5_two_13 : decode cX5_two 13 = .ok (.aload_n 0, 1) := by decide +kernel
theorem dX5_two_14 : decode cX5_two 14 = .ok (.iload_n 2, 1) := by decide +kernel
theorem dX5_two_15 : decode cX5_two 15 = .ok (.invokevirtual 182, 3) := by decide +kernel
theorem dX5_two_18 : decode cX5_two 18 = .ok (.ifCond .eq 12, 3) := by decide +kernel
theorem dX5_two_21 : decode cX5_two 21 = .ok (.iload_n 1, 1) := by decide +kernel
theorem dX5_two_22 : decode cX5_two 22 = .ok (.iload_n 2, 1) := by decide +kernel
theorem dX5_two_23 : decode cX5_two 23 = .ok (.if_icmp .eq 7, 3) := by decide +kernel
theorem dX5_two_26 : decode cX5_two 26 = .ok (.iconst 0, 1) := by decide +kernel
theorem dX5_two_27 : decode cX5_two 27 = .ok (.goto 4, 3) := by decide +kernel
theorem dX5_two_30 : decode cX5_two 30 = .ok (.iconst (-1), 1) := by decide +kernel
theorem dX5_two_31 : decode cX5_two 31 = .ok (.istore_n 3, 1) := by decide +kernel
theorem dX5_two_32 : decode cX5_two 32 = .ok (.iload_n 3, 1) := by decide +kernel
theorem dX5_two_33 : decode cX5_two 33 = .ok (.ifCond .ne 28, 3) := by decide +kernel
theorem dX5_two_36 : decode cX5_two 36 = .ok (.aload_n 0, 1) := by decide +kernel
theorem dX5_two_37 : decode cX5_two 37 = .ok (.getfield 22, 3) := by decide +kernel
theorem dX5_two_40 : decode cX5_two 40 = .ok (.iload_n 1, 1) := by decide +kernel
theorem dX5_two_41 : decode cX5_two 41 = .ok (.iaload, 1) := by decide +kernel
theorem dX5_two_42 : decode cX5_two 42 = .ok (.iconst 1, 1) := by decide +kernel
theorem dX5_two_43 : decode cX5_two 43 = .ok (.if_icmp .eq 13, 3) := by decide +kernel
theorem dX5_two_46 : decode cX5_two 46 = .ok (.aload_n 0, 1) := by decide +kernel
theorem dX5_two_47 : decode cX5_two 47 = .ok (.getfield 22, 3) := by decide +kernel
theorem dX5_two_50 : decode cX5_two 50 = .ok (.iload_n 2, 1) := by decide +kernel
theorem dX5_two_51 : decode cX5_two 51 = .ok (.iaload, 1) := by decide +kernel
theorem dX5_two_52 : decode cX5_two 52 = .ok (.iconst 1, 1) := by decide +kernel
theorem dX5_two_53 : decode cX5_two 53 = .ok (.if_icmp .ne 8, 3) := by decide +kernel
theorem dX5_two_56 : decode cX5_two 56 = .ok (.bipush (-3), 2) := by decide +kernel
theorem dX5_two_58 : decode cX5_two 58 = .ok (.goto 4, 3) := by decide +kernel
theorem dX5_two_61 : decode cX5_two 61 = .ok (.iload_n 3, 1) := by decide +kernel
theorem dX5_two_62 : decode cX5_two 62 = .ok (.istore_n 3, 1) := by decide +kernel
theorem dX5_two_63 : decode cX5_two 63 = .ok (.iload_n 3, 1) := by decide +kernel
theorem dX5_two_64 : decode cX5_two 64 = .ok (.ifCond .ge 9, 3) := by decide +kernel
theorem dX5_two_67 : decode cX5_two 67 = .ok (.aload_n 0, 1) := by decide +kernel
theorem dX5_two_68 : decode cX5_two 68 = .ok (.iload_n 3, 1) := by decide +kernel
theorem dX5_two_69 : decode cX5_two 69 = .ok (.invokevirtual 149, 3) := by decide +kernel
theorem dX5_two_72 : decode cX5_two 72 = .ok (.ireturn, 1) := by decide +kernel
theorem dX5_two_73 : decode cX5_two 73 = .ok (.aload_n 0, 1) := by decide +kernel
theorem dX5_two_74 : decode cX5_two 74 = .ok (.invokevirtual 209, 3) := by decide +kernel
theorem dX5_two_77 : decode cX5_two 77 = .ok (.iconst 0, 1) := by decide +kernel
theorem dX5_two_78 : decode cX5_two 78 = .ok (.istore 4, 2) := by decide +kernel
theorem dX5_two_80 : decode cX5_two 80 = .ok (.iload 4, 2) := by decide +kernel
theorem dX5_two_82 : decode cX5_two 82 = .ok (.iconst 4, 1) := by decide +kernel
theorem dX5_two_83 : decode cX5_two 83 = .ok (.if_icmp .ge 58, 3) := by decide +kernel
theorem dX5_two_86 : decode cX5_two 86 = .ok (.aload_n 0, 1) := by decide +kernel
theorem dX5_two_87 : decode cX5_two 87 = .ok (.iload 4, 2) := by decide +kernel
theorem dX5_two_89 : decode cX5_two 89 = .ok (.iconst 2, 1) := by decide +kernel
theorem dX5_two_90 : decode cX5_two 90 = .ok (.idiv, 1) := by decide +kernel
theorem dX5_two_91 : decode cX5_two 91 = .ok (.iload_n 1, 1) := by decide +kernel
theorem dX5_two_92 : decode cX5_two 92 = .ok (.ishl, 1) := by decide +kernel
theorem dX5_two_93 : decode cX5_two 93 = .ok (.iload 4, 2) := by decide +kernel
theorem dX5_two_95 : decode cX5_two 95 = .ok (.iconst 2, 1) := by decide +kernel
theorem dX5_two_96 : decode cX5_two 96 = .ok (.irem, 1) := by decide +kernel
theorem dX5_two_97 : decode cX5_two 97 = .ok (.iload_n 2, 1) := by decide +kernel
theorem dX5_two_98 : decode cX5_two 98 = .ok (.ishl, 1) := by decide +kernel
theorem dX5_two_99 : decode cX5_two 99 = .ok (.ior, 1) := by decide +kernel
theorem dX5_two_100 : decode cX5_two 100 = .ok (.putfield 128, 3) := by decide +kernel
theorem dX5_two_103 : decode cX5_two 103 = .ok (.aload_n 0, 1) := by decide +kernel
theorem dX5_two_104 : decode cX5_two 104 = .ok (.bipush 6, 2) := by decide +kernel
theorem dX5_two_106 : decode cX5_two 106 = .ok (.invokevirtual 200, 3) := by decide +kernel
theorem dX5_two_109 : decode cX5_two 109 = .ok (.aload_n 0, 1) := by decide +kernel
theorem dX5_two_110 : decode cX5_two 110 = .ok (.getfield 67, 3) := by decide +kernel
theorem dX5_two_113 : decode cX5_two 113 = .ok (.iload 4, 2) := by decide +kernel
theorem dX5_two_115 : decode cX5_two 115 = .ok (.aload_n 0, 1) := by decide +kernel
theorem dX5_two_116 : decode cX5_two 116 = .ok (.getfield 131, 3) := by decide +kernel
theorem dX5_two_119 : decode cX5_two 119 = .ok (.iastore, 1) := by decide +kernel
theorem dX5_two_120 : decode cX5_two 120 = .ok (.aload_n 0, 1) := by decide +kernel
theorem dX5_two_121 : decode cX5_two 121 = .ok (.getfield 70, 3) := by decide +kernel
theorem dX5_two_124 : decode cX5_two 124 = .ok (.iload 4, 2) := by decide +kernel
theorem dX5_two_126 : decode cX5_two 126 = .ok (.aload_n 0, 1) := by decide +kernel
theorem dX5_two_127 : decode cX5_two 127 = .ok (.getfield 137, 3) := by decide +kernel
theorem dX5_two_130 : decode cX5_two 130 = .ok (.iastore, 1) := by decide +kernel
theorem dX5_two_131 : decode cX5_two 131 = .ok (.aload_n 0, 1) := by decide +kernel
theorem dX5_two_132 : decode cX5_two 132 = .ok (.invokevirtual 215, 3) := by decide +kernel
theorem dX5_two_135 : decode cX5_two 135 = .ok (.iinc 4 1, 3) := by decide +kernel
theorem dX5_two_138 : decode cX5_two 138 = .ok (.goto (-58), 3) := by decide +kernel
theorem dX5_two_141 : decode cX5_two 141 = .ok (.aload_n 0, 1) := by decide +kernel
theorem dX5_two_142 : decode cX5_two 142 = .ok (.iconst 0, 1) := by decide +kernel
theorem dX5_two_143 : decode cX5_two 143 = .ok (.putfield 128, 3) := by decide +kernel
theorem dX5_two_146 : decode cX5_two 146 = .ok (.iconst 0, 1) := by decide +kernel
theorem dX5_two_147 : decode cX5_two 147 = .ok (.istore 4, 2) := by decide +kernel
theorem dX5_two_149 : decode cX5_two 149 = .ok (.iload 4, 2) := by decide +kernel
theorem dX5_two_151 : decode cX5_two 151 = .ok (.iconst 4, 1) := by decide +kernel
theorem dX5_two_152 : decode cX5_two 152 = .ok (.if_icmp .ge 86, 3) := by decide +kernel
theorem dX5_two_155 : decode cX5_two 155 = .ok (.iconst 2, 1) := by decide +kernel
theorem dX5_two_156 : decode cX5_two 156 = .ok (.iconst 1, 1) := by decide +kernel
theorem dX5_two_157 : decode cX5_two 157 = .ok (.iload 4, 2) := by decide +kernel
theorem dX5_two_159 : decode cX5_two 159 = .ok (.iconst 2, 1) := by decide +kernel
theorem dX5_two_160 : decode cX5_two 160 = .ok (.idiv, 1) := by decide +kernel
theorem dX5_two_161 : decode cX5_two 161 = .ok (.isub, 1) := by decide +kernel
theorem dX5_two_162 : decode cX5_two 162 = .ok (.imul, 1) := by decide +kernel
theorem dX5_two_163 : decode cX5_two 163 = .ok (.iload 4, 2) := by decide +kernel
theorem dX5_two_165 : decode cX5_two 165 = .ok (.iconst 2, 1) := by decide +kernel
theorem dX5_two_166 : decode cX5_two 166 = .ok (.irem, 1) := by decide +kernel
theorem dX5_two_167 : decode cX5_two 167 = .ok (.iadd, 1) := by decide +kernel
theorem dX5_two_168 : decode cX5_two 168 = .ok (.istore 5, 2) := by decide +kernel
theorem dX5_two_170 : decode cX5_two 170 = .ok (.iconst 2, 1) := by decide +kernel
theorem dX5_two_171 : decode cX5_two 171 = .ok (.iload 4, 2) := by decide +kernel
theorem dX5_two_173 : decode cX5_two 173 = .ok (.iconst 2, 1) := by decide +kernel
theorem dX5_two_174 : decode cX5_two 174 = .ok (.idiv, 1) := by decide +kernel
theorem dX5_two_175 : decode cX5_two 175 = .ok (.imul, 1) := by decide +kernel
theorem dX5_two_176 : decode cX5_two 176 = .ok (.iconst 1, 1) := by decide +kernel
theorem dX5_two_177 : decode cX5_two 177 = .ok (.iadd, 1) := by decide +kernel
theorem dX5_two_178 : decode cX5_two 178 = .ok (.iload 4, 2) := by decide +kernel
theorem dX5_two_180 : decode cX5_two 180 = .ok (.iconst 2, 1) := by decide +kernel
theorem dX5_two_181 : decode cX5_two 181 = .ok (.irem, 1) := by decide +kernel
theorem dX5_two_182 : decode cX5_two 182 = .ok (.isub, 1) := by decide +kernel
theorem dX5_two_183 : decode cX5_two 183 = .ok (.istore 6, 2) := by decide +kernel
theorem dX5_two_185 : decode cX5_two 185 = .ok (.aload_n 0, 1) := by decide +kernel
theorem dX5_two_186 : decode cX5_two 186 = .ok (.getfield 67, 3) := by decide +kernel
theorem dX5_two_189 : decode cX5_two 189 = .ok (.iload 4, 2) := by decide +kernel
theorem dX5_two_191 : decode cX5_two 191 = .ok (.iaload, 1) := by decide +kernel
theorem dX5_two_192 : decode cX5_two 192 = .ok (.aload_n 0, 1) := by decide +kernel
theorem dX5_two_193 : decode cX5_two 193 = .ok (.getfield 67, 3) := by decide +kernel
theorem dX5_two_196 : decode cX5_two 196 = .ok (.iload 5, 2) := by decide +kernel
theorem dX5_two_198 : decode cX5_two 198 = .ok (.iaload, 1) := by decide +kernel
theorem dX5_two_199 : decode cX5_two 199 = .ok (.if_icmp .lt 33, 3) := by decide +kernel
theorem dX5_two_202 : decode cX5_two 202 = .ok (.aload_n 0, 1) := by decide +kernel
theorem dX5_two_203 : decode cX5_two 203 = .ok (.getfield 70, 3) := by decide +kernel
theorem dX5_two_206 : decode cX5_two 206 = .ok (.iload 4, 2) := by decide +kernel
theorem dX5_two_208 : decode cX5_two 208 = .ok (.iaload, 1) := by decide +kernel
theorem dX5_two_209 : decode cX5_two 209 = .ok (.aload_n 0, 1) := by decide +kernel
theorem dX5_two_210 : decode cX5_two 210 = .ok (.getfield 70, 3) := by decide +kernel
theorem dX5_two_213 : decode cX5_two 213 = .ok (.iload 6, 2) := by decide +kernel
theorem dX5_two_215 : decode cX5_two 215 = .ok (.iaload, 1) := by decide +kernel
theorem dX5_two_216 : decode cX5_two 216 = .ok (.if_icmp .gt 16, 3) := by decide +kernel
theorem dX5_two_219 : decode cX5_two 219 = .ok (.bipush 10, 2) := by decide +kernel
theorem dX5_two_221 : decode cX5_two 221 = .ok (.iload 4, 2) := by decide +kernel
theorem dX5_two_223 : decode cX5_two 223 = .ok (.iconst 2, 1) := by decide +kernel
theorem dX5_two_224 : decode cX5_two 224 = .ok (.idiv, 1) := by decide +kernel
theorem dX5_two_225 : decode cX5_two 225 = .ok (.imul, 1) := by decide +kernel
theorem dX5_two_226 : decode cX5_two 226 = .ok (.iload 4, 2) := by decide +kernel
theorem dX5_two_228 : decode cX5_two 228 = .ok (.iconst 2, 1) := by decide +kernel
theorem dX5_two_229 : decode cX5_two 229 = .ok (.irem, 1) := by decide +kernel
theorem dX5_two_230 : decode cX5_two 230 = .ok (.iadd, 1) := by decide +kernel
theorem dX5_two_231 : decode cX5_two 231 = .ok (.ireturn, 1) := by decide +kernel
theorem dX5_two_232 : decode cX5_two 232 = .ok (.iinc 4 1, 3) := by decide +kernel
theorem dX5_two_235 : decode cX5_two 235 = .ok (.goto (-86), 3) := by decide +kernel
theorem dX5_two_238 : decode cX5_two 238 = .ok (.bipush (-9), 2) := by decide +kernel
theorem dX5_two_240 : decode cX5_two 240 = .ok (.ireturn, 1) := by decide +kernel
abbrev A5_two (G : GG) (Q : Int32 → MM → Prop) := AW G E0 (MZ G (qI Q)) (WY yX5_two cX5_two 7 (some .int)) RX5 cX5_two 7 (some .int) ({ frames := 5, cells := 0, slots := 0, locals := 111 } : Room) 0 0
def D5_two_c219 (Q : Int32 → MM → Prop) (x4 : Int32) (M : MM) : Prop := Q (((10 : Int32) * (x4 / (2 : Int32))) + (x4 - x4 / (2 : Int32) * (2 : Int32))) M
def D5_two_c232 (K149 : Int32 → MM → Prop) (Q : Int32 → MM → Prop) (x4 : Int32) (M : MM) : Prop := (fun v21 : Int32 => K149 v21 M) (x4 + (1 : Int32))
def D5_two_c149 (Q : Int32 → MM → Prop) : Nat → Int32 → MM → Prop
  | 0, _, _ => False
  | n + 1, x4, M => (((4 : Int32) ≤ x4 → Q (-9 : Int32) M) ∧ (¬ (4 : Int32) ≤ x4 → (fun v19 : Int32 => (fun v20 : Int32 => ib 82 x4 ∧ ib 82 v19 ∧ (((M 82 (ix x4)) < (M 82 (ix v19)) → D5_two_c232 (D5_two_c149 Q n) Q x4 M) ∧ (¬ (M 82 (ix x4)) < (M 82 (ix v19)) → ib 83 x4 ∧ ib 83 v20 ∧ (((M 83 (ix v20)) < (M 83 (ix x4)) → D5_two_c232 (D5_two_c149 Q n) Q x4 M) ∧ (¬ (M 83 (ix v20)) < (M 83 (ix x4)) → D5_two_c219 Q x4 M))))) ((((2 : Int32) * (x4 / (2 : Int32))) + (1 : Int32)) - (x4 - x4 / (2 : Int32) * (2 : Int32)))) (((2 : Int32) * ((1 : Int32) - (x4 / (2 : Int32)))) + (x4 - x4 / (2 : Int32) * (2 : Int32)))))
def D5_two_c141 (Q : Int32 → MM → Prop) (M : MM) : Prop := (fun M18 : MM => D5_two_c149 Q FU (0 : Int32) M18) (up M 62 15 (0 : Int32))
def D5_two_c80 (Q : Int32 → MM → Prop) : Nat → Int32 → Int32 → Int32 → MM → Prop
  | 0, _, _, _, _ => False
  | n + 1, x1, x2, x4, M => (((4 : Int32) ≤ x4 → D5_two_c141 Q M) ∧ (¬ (4 : Int32) ≤ x4 → (fun M10 : MM => D5_goHours (6 : Int32) M10 (fun (M12 : MM) => ib 82 x4 ∧ (fun M13 : MM => ib 83 x4 ∧ (fun M14 : MM => D5_again M14 (fun (M16 : MM) => (fun v17 : Int32 => D5_two_c80 Q n x1 x2 v17 M16) (x4 + (1 : Int32)))) (up M13 83 (ix x4) (M13 62 7))) (up M12 82 (ix x4) (M12 62 6)))) (up M 62 15 (((x4 / (2 : Int32)) <<< (x1 &&& 31)) ||| ((x4 - x4 / (2 : Int32) * (2 : Int32)) <<< (x2 &&& 31))))))
def D5_two_c62 (Q : Int32 → MM → Prop) (x1 : Int32) (x2 : Int32) (s0 : Int32) (M : MM) : Prop := ((0 ≤ s0 → D5_think M (fun (M7 : MM) => D5_two_c80 Q FU x1 x2 (0 : Int32) M7)) ∧ (¬ 0 ≤ s0 → D5_refuse s0 M (fun (r8 : Int32) (M9 : MM) => Q r8 M9)))
def D5_two_c56 (Q : Int32 → MM → Prop) (x1 : Int32) (x2 : Int32) (M : MM) : Prop := D5_two_c62 Q x1 x2 (-3 : Int32) M
def D5_two_c61 (Q : Int32 → MM → Prop) (x1 : Int32) (x2 : Int32) (x3 : Int32) (M : MM) : Prop := D5_two_c62 Q x1 x2 x3 M
def D5_two_c31 (Q : Int32 → MM → Prop) (x1 : Int32) (x2 : Int32) (s0 : Int32) (M : MM) : Prop := ((s0 ≠ 0 → D5_two_c61 Q x1 x2 s0 M) ∧ (s0 = 0 → ib 67 x1 ∧ (((M 67 (ix x1)) = (1 : Int32) → D5_two_c56 Q x1 x2 M) ∧ (¬ (M 67 (ix x1)) = (1 : Int32) → ib 67 x2 ∧ (((M 67 (ix x2)) ≠ (1 : Int32) → D5_two_c61 Q x1 x2 s0 M) ∧ ((M 67 (ix x2)) = (1 : Int32) → D5_two_c56 Q x1 x2 M))))))
def D5_two_c30 (Q : Int32 → MM → Prop) (x1 : Int32) (x2 : Int32) (M : MM) : Prop := D5_two_c31 Q x1 x2 (-1 : Int32) M
def D5_two (x1 : Int32) (x2 : Int32) (M : MM) (Q : Int32 → MM → Prop) : Prop := (fun M1 : MM => D5_isWork x1 M1 (fun (r2 : Int32) (M3 : MM) => ((r2 = 0 → D5_two_c30 Q x1 x2 M3) ∧ (¬ r2 = 0 → D5_isWork x2 M3 (fun (r4 : Int32) (M5 : MM) => ((r4 = 0 → D5_two_c30 Q x1 x2 M5) ∧ (¬ r4 = 0 → ((x1 = x2 → D5_two_c30 Q x1 x2 M5) ∧ (¬ x1 = x2 → D5_two_c31 Q x1 x2 (0 : Int32) M5))))))))) (up M 62 9 (0 : Int32))
set_option maxHeartbeats 4000000 in
set_option maxRecDepth 100000 in
theorem s5_two_c219 {G : GG} {Q : Int32 → MM → Prop} : ∀ (x4 : Int32) (M : MM), D5_two_c219 Q x4 M → A5_two G Q 219 [(4, .int x4)] [] M := by
  intro x4 M h
  unfold D5_two_c219 at h
  refine a_bipush (v := 10) dX5_two_219 (by decide) ?_
  refine a_iload dX5_two_221 0 rfl ?_
  refine a_iconst (v := 2) dX5_two_223 (by decide) ?_
  refine a_idiv dX5_two_224 (by decide) ?_
  refine a_imul dX5_two_225 ?_
  refine a_iload dX5_two_226 0 rfl ?_
  refine a_iconst (v := 2) dX5_two_228 (by decide) ?_
  refine a_irem dX5_two_229 (by decide) ?_
  refine a_iadd dX5_two_230 ?_
  exact a_iret dX5_two_231 ⟨_, rfl, h⟩
set_option maxHeartbeats 4000000 in
set_option maxRecDepth 100000 in
theorem s5_two_c232 {G : GG} {K149 : Int32 → MM → Prop} {Q : Int32 → MM → Prop} (hK149 : ∀ (x4 : Int32) (M : MM), K149 x4 M → A5_two G Q 149 [(0, .ref (gA G 62)), (4, .int x4)] [] M) : ∀ (x4 : Int32) (M : MM), D5_two_c232 K149 Q x4 M → A5_two G Q 232 [(0, .ref (gA G 62)), (4, .int x4)] [] M := by
  intro x4 M h
  unfold D5_two_c232 at h
  refine a_iinc (L' := [(4, .int _), (0, .ref _)]) dX5_two_232 1 rfl (show _ + Int32.ofInt (1 : Int) = _ + (1 : Int32) from rfl) (by decide) rfl ?_
  refine a_goto (tgt := 149) dX5_two_235 (by decide) ?_
  refine a_sub [1, 0] rfl ?_
  exact hK149 _ _ h
set_option maxHeartbeats 4000000 in
set_option maxRecDepth 100000 in
theorem s5_two_c149 {G : GG} {Q : Int32 → MM → Prop} : ∀ (n : Nat) (x4 : Int32) (M : MM), D5_two_c149 Q n x4 M → A5_two G Q 149 [(0, .ref (gA G 62)), (4, .int x4)] [] M := by
  intro n
  induction n with
  | zero => intro x4 M h; exact h.elim
  | succ n ih =>
    intro x4 M h
    unfold D5_two_c149 at h
    refine a_iload dX5_two_149 1 rfl ?_
    refine a_iconst (v := 4) dX5_two_151 (by decide) ?_
    refine a_icmp_ge (tgt := 238) dX5_two_152 (by decide) (fun c => ?_) (fun c => ?_)
    · have h := h.1 c
      refine a_bipush (v := -9) dX5_two_238 (by decide) ?_
      exact a_iret dX5_two_240 ⟨_, rfl, h⟩
    · have h := h.2 c
      refine a_iconst (v := 2) dX5_two_155 (by decide) ?_
      refine a_iconst (v := 1) dX5_two_156 (by decide) ?_
      refine a_iload dX5_two_157 1 rfl ?_
      refine a_iconst (v := 2) dX5_two_159 (by decide) ?_
      refine a_idiv dX5_two_160 (by decide) ?_
      refine a_isub dX5_two_161 ?_
      refine a_imul dX5_two_162 ?_
      refine a_iload dX5_two_163 1 rfl ?_
      refine a_iconst (v := 2) dX5_two_165 (by decide) ?_
      refine a_irem dX5_two_166 (by decide) ?_
      refine a_iadd dX5_two_167 ?_
      refine a_istore (i := 5) (L' := [(5, .int _), (0, .ref _), (4, .int _)]) dX5_two_168 (by decide) rfl ?_
      refine a_iconst (v := 2) dX5_two_170 (by decide) ?_
      refine a_iload dX5_two_171 2 rfl ?_
      refine a_iconst (v := 2) dX5_two_173 (by decide) ?_
      refine a_idiv dX5_two_174 (by decide) ?_
      refine a_imul dX5_two_175 ?_
      refine a_iconst (v := 1) dX5_two_176 (by decide) ?_
      refine a_iadd dX5_two_177 ?_
      refine a_iload dX5_two_178 2 rfl ?_
      refine a_iconst (v := 2) dX5_two_180 (by decide) ?_
      refine a_irem dX5_two_181 (by decide) ?_
      refine a_isub dX5_two_182 ?_
      refine a_istore (i := 6) (L' := [(6, .int _), (5, .int _), (0, .ref _), (4, .int _)]) dX5_two_183 (by decide) rfl ?_
      refine a_aload_n dX5_two_185 2 rfl ?_
      refine a_get3 dX5_two_186 37 (by decide) (tbc _ kF_RX5_67) (fun w h => tbc _ (uW3 w h)) rfl ob_62 rfl ?_
      refine a_iload dX5_two_189 3 rfl ?_
      refine a_iald dX5_two_191 h.1 ?_
      have h := h.2
      refine a_aload_n dX5_two_192 2 rfl ?_
      refine a_get3 dX5_two_193 37 (by decide) (tbc _ kF_RX5_67) (fun w h => tbc _ (uW3 w h)) rfl ob_62 rfl ?_
      refine a_iload dX5_two_196 1 rfl ?_
      refine a_iald dX5_two_198 h.1 ?_
      have h := h.2
      refine a_icmp_lt (tgt := 232) dX5_two_199 (by decide) (fun c => ?_) (fun c => ?_)
      · have h := h.1 c
        refine a_sub [2, 3] rfl ?_
        exact s5_two_c232 ih _ _ h
      · have h := h.2 c
        refine a_aload_n dX5_two_202 2 rfl ?_
        refine a_get3 dX5_two_203 38 (by decide) (tbc _ kF_RX5_70) (fun w h => tbc _ (uW3 w h)) rfl ob_62 rfl ?_
        refine a_iload dX5_two_206 3 rfl ?_
        refine a_iald dX5_two_208 h.1 ?_
        have h := h.2
        refine a_aload_n dX5_two_209 2 rfl ?_
        refine a_get3 dX5_two_210 38 (by decide) (tbc _ kF_RX5_70) (fun w h => tbc _ (uW3 w h)) rfl ob_62 rfl ?_
        refine a_iload dX5_two_213 0 rfl ?_
        refine a_iald dX5_two_215 h.1 ?_
        have h := h.2
        refine a_icmp_gt (tgt := 232) dX5_two_216 (by decide) (fun c => ?_) (fun c => ?_)
        · have h := h.1 c
          refine a_sub [2, 3] rfl ?_
          exact s5_two_c232 ih _ _ h
        · have h := h.2 c
          refine a_sub [3] rfl ?_
          exact s5_two_c219 _ _ h
set_option maxHeartbeats 4000000 in
set_option maxRecDepth 100000 in
theorem s5_two_c141 {G : GG} {Q : Int32 → MM → Prop} : ∀  (M : MM), D5_two_c141 Q M → A5_two G Q 141 [(0, .ref (gA G 62))] [] M := by
  intro  M h
  unfold D5_two_c141 at h
  refine a_aload_n dX5_two_141 0 rfl ?_
  refine a_iconst (v := 0) dX5_two_142 (by decide) ?_
  refine a_put3 dX5_two_143 15 (by decide) (tbc _ kF_RX5_128) (fun w h => tbc _ (uW3 w h)) rfl rfl rfl rfl ob_62 fs3_15 ?_
  refine a_iconst (v := 0) dX5_two_146 (by decide) ?_
  refine a_istore (i := 4) (L' := [(4, .int _), (0, .ref _)]) dX5_two_147 (by decide) rfl ?_
  refine a_sub [1, 0] rfl ?_
  exact s5_two_c149 _ _ _ h
set_option maxHeartbeats 4000000 in
set_option maxRecDepth 100000 in
theorem s5_two_c80 {G : GG} {Q : Int32 → MM → Prop} : ∀ (n : Nat) (x1 : Int32) (x2 : Int32) (x4 : Int32) (M : MM), D5_two_c80 Q n x1 x2 x4 M → A5_two G Q 80 [(0, .ref (gA G 62)), (1, .int x1), (2, .int x2), (4, .int x4)] [] M := by
  intro n
  induction n with
  | zero => intro x1 x2 x4 M h; exact h.elim
  | succ n ih =>
    intro x1 x2 x4 M h
    unfold D5_two_c80 at h
    refine a_iload dX5_two_80 3 rfl ?_
    refine a_iconst (v := 4) dX5_two_82 (by decide) ?_
    refine a_icmp_ge (tgt := 141) dX5_two_83 (by decide) (fun c => ?_) (fun c => ?_)
    · have h := h.1 c
      refine a_sub [0] rfl ?_
      exact s5_two_c141 _ h
    · have h := h.2 c
      refine a_aload_n dX5_two_86 0 rfl ?_
      refine a_iload dX5_two_87 3 rfl ?_
      refine a_iconst (v := 2) dX5_two_89 (by decide) ?_
      refine a_idiv dX5_two_90 (by decide) ?_
      refine a_iload_n dX5_two_91 1 rfl ?_
      refine a_ishl dX5_two_92 ?_
      refine a_iload dX5_two_93 3 rfl ?_
      refine a_iconst (v := 2) dX5_two_95 (by decide) ?_
      refine a_irem dX5_two_96 (by decide) ?_
      refine a_iload_n dX5_two_97 2 rfl ?_
      refine a_ishl dX5_two_98 ?_
      refine a_ior dX5_two_99 ?_
      refine a_put3 dX5_two_100 15 (by decide) (tbc _ kF_RX5_128) (fun w h => tbc _ (uW3 w h)) rfl rfl rfl rfl ob_62 fs3_15 ?_
      refine a_aload_n dX5_two_103 0 rfl ?_
      refine a_bipush (v := 6) dX5_two_104 (by decide) ?_
      refine a_callVv (n := 1) [.int _] (C := RX5) (ci := 3) (qc := (RX5, TX5, 40)) (fsF := fl3 G _) ob_62.1 (fun _ => en3 ob_62.2) rfl rfl dX5_two_106 (s5_goHours h) (gV tbc kM_RX5_200_X5_goHours kI_X5_goHours kS_X5_goHours kN_RX5 kC_X5_goHours) rfl (by decide +kernel) ⟨Nat.le_of_ble_eq_true rfl, Nat.le_of_ble_eq_true rfl⟩ rfl rfl (Nat.le_of_ble_eq_true rfl) ⟨Nat.le_refl 0, Nat.le_refl 0⟩ (fun M h => ?_)
      refine a_aload_n dX5_two_109 0 rfl ?_
      refine a_get3 dX5_two_110 37 (by decide) (tbc _ kF_RX5_67) (fun w h => tbc _ (uW3 w h)) rfl ob_62 rfl ?_
      refine a_iload dX5_two_113 3 rfl ?_
      refine a_aload_n dX5_two_115 0 rfl ?_
      refine a_get3 dX5_two_116 6 (by decide) (tbc _ kF_RX5_131) (fun w h => tbc _ (uW3 w h)) rfl ob_62 rfl ?_
      refine a_iast dX5_two_119 h.1 ?_
      have h := h.2
      refine a_aload_n dX5_two_120 0 rfl ?_
      refine a_get3 dX5_two_121 38 (by decide) (tbc _ kF_RX5_70) (fun w h => tbc _ (uW3 w h)) rfl ob_62 rfl ?_
      refine a_iload dX5_two_124 3 rfl ?_
      refine a_aload_n dX5_two_126 0 rfl ?_
      refine a_get3 dX5_two_127 7 (by decide) (tbc _ kF_RX5_137) (fun w h => tbc _ (uW3 w h)) rfl ob_62 rfl ?_
      refine a_iast dX5_two_130 h.1 ?_
      have h := h.2
      refine a_aload_n dX5_two_131 0 rfl ?_
      refine a_callVv (n := 0) [] (C := RX5) (ci := 3) (qc := (RX5, TX5, 40)) (fsF := fl3 G _) ob_62.1 (fun _ => en3 ob_62.2) rfl rfl dX5_two_132 (s5_again h) (gV tbc kM_RX5_215_X5_again kI_X5_again kS_X5_again kN_RX5 kC_X5_again) rfl (by decide +kernel) ⟨Nat.le_of_ble_eq_true rfl, Nat.le_of_ble_eq_true rfl⟩ rfl rfl (Nat.le_of_ble_eq_true rfl) ⟨Nat.le_refl 0, Nat.le_refl 0⟩ (fun M h => ?_)
      refine a_iinc (L' := [(4, .int _), (0, .ref _), (1, .int _), (2, .int _)]) dX5_two_135 3 rfl (show _ + Int32.ofInt (1 : Int) = _ + (1 : Int32) from rfl) (by decide) rfl ?_
      refine a_goto (tgt := 80) dX5_two_138 (by decide) ?_
      refine a_sub [1, 2, 3, 0] rfl ?_
      exact ih _ _ _ _ h
set_option maxHeartbeats 4000000 in
set_option maxRecDepth 100000 in
theorem s5_two_c62 {G : GG} {Q : Int32 → MM → Prop} : ∀ (x1 : Int32) (x2 : Int32) (s0 : Int32) (M : MM), D5_two_c62 Q x1 x2 s0 M → A5_two G Q 62 [(0, .ref (gA G 62)), (1, .int x1), (2, .int x2)] [.int s0] M := by
  intro x1 x2 s0 M h
  unfold D5_two_c62 at h
  refine a_istore_n (i := 3) (L' := [(3, .int _), (0, .ref _), (1, .int _), (2, .int _)]) dX5_two_62 rfl (by decide) rfl ?_
  refine a_iload_n dX5_two_63 0 rfl ?_
  refine a_if_ge (tgt := 73) dX5_two_64 (by decide) (fun c => ?_) (fun c => ?_)
  · have h := h.1 c
    refine a_aload_n dX5_two_73 1 rfl ?_
    refine a_callVv (n := 0) [] (C := RX5) (ci := 3) (qc := (RX5, TX5, 40)) (fsF := fl3 G _) ob_62.1 (fun _ => en3 ob_62.2) rfl rfl dX5_two_74 (s5_think h) (gV tbc kM_RX5_209_X5_think kI_X5_think kS_X5_think kN_RX5 kC_X5_think) rfl (by decide +kernel) ⟨Nat.le_of_ble_eq_true rfl, Nat.le_of_ble_eq_true rfl⟩ rfl rfl (Nat.le_of_ble_eq_true rfl) ⟨Nat.le_refl 0, Nat.le_refl 0⟩ (fun M h => ?_)
    refine a_iconst (v := 0) dX5_two_77 (by decide) ?_
    refine a_istore (i := 4) (L' := [(4, .int _), (3, .int _), (0, .ref _), (1, .int _), (2, .int _)]) dX5_two_78 (by decide) rfl ?_
    refine a_sub [2, 3, 4, 0] rfl ?_
    exact s5_two_c80 _ _ _ _ _ h
  · have h := h.2 c
    refine a_aload_n dX5_two_67 1 rfl ?_
    refine a_iload_n dX5_two_68 0 rfl ?_
    refine a_callVi (n := 1) [.int _] (C := RX5) (ci := 3) (qc := (RX5, TX5, 40)) (fsF := fl3 G _) ob_62.1 (fun _ => en3 ob_62.2) rfl rfl dX5_two_69 (s5_refuse h) (gV tbc kM_RX5_149_X5_refuse kI_X5_refuse kS_X5_refuse kN_RX5 kC_X5_refuse) rfl (by decide +kernel) ⟨Nat.le_of_ble_eq_true rfl, Nat.le_of_ble_eq_true rfl⟩ rfl rfl (Nat.le_of_ble_eq_true rfl) ⟨Nat.le_refl 0, Nat.le_refl 0⟩ (fun r M h => ?_)
    exact a_iret dX5_two_72 ⟨_, rfl, h⟩
set_option maxHeartbeats 4000000 in
set_option maxRecDepth 100000 in
theorem s5_two_c56 {G : GG} {Q : Int32 → MM → Prop} : ∀ (x1 : Int32) (x2 : Int32) (M : MM), D5_two_c56 Q x1 x2 M → A5_two G Q 56 [(0, .ref (gA G 62)), (1, .int x1), (2, .int x2)] [] M := by
  intro x1 x2 M h
  unfold D5_two_c56 at h
  refine a_bipush (v := -3) dX5_two_56 (by decide) ?_
  refine a_goto (tgt := 62) dX5_two_58 (by decide) ?_
  refine a_sub [0, 1, 2] rfl ?_
  exact s5_two_c62 _ _ _ _ h
set_option maxHeartbeats 4000000 in
set_option maxRecDepth 100000 in
theorem s5_two_c61 {G : GG} {Q : Int32 → MM → Prop} : ∀ (x1 : Int32) (x2 : Int32) (x3 : Int32) (M : MM), D5_two_c61 Q x1 x2 x3 M → A5_two G Q 61 [(0, .ref (gA G 62)), (1, .int x1), (2, .int x2), (3, .int x3)] [] M := by
  intro x1 x2 x3 M h
  unfold D5_two_c61 at h
  refine a_iload_n dX5_two_61 3 rfl ?_
  refine a_sub [0, 1, 2] rfl ?_
  exact s5_two_c62 _ _ _ _ h
set_option maxHeartbeats 4000000 in
set_option maxRecDepth 100000 in
theorem s5_two_c31 {G : GG} {Q : Int32 → MM → Prop} : ∀ (x1 : Int32) (x2 : Int32) (s0 : Int32) (M : MM), D5_two_c31 Q x1 x2 s0 M → A5_two G Q 31 [(0, .ref (gA G 62)), (1, .int x1), (2, .int x2)] [.int s0] M := by
  intro x1 x2 s0 M h
  unfold D5_two_c31 at h
  refine a_istore_n (i := 3) (L' := [(3, .int _), (0, .ref _), (1, .int _), (2, .int _)]) dX5_two_31 rfl (by decide) rfl ?_
  refine a_iload_n dX5_two_32 0 rfl ?_
  refine a_if_ne (tgt := 61) dX5_two_33 (by decide) (fun c => ?_) (fun c => ?_)
  · have h := h.1 c
    refine a_sub [1, 2, 3, 0] rfl ?_
    exact s5_two_c61 _ _ _ _ h
  · have h := h.2 c
    refine a_aload_n dX5_two_36 1 rfl ?_
    refine a_get3 dX5_two_37 5 (by decide) (tbc _ kF_RX5_22) (fun w h => tbc _ (uW3 w h)) rfl ob_62 rfl ?_
    refine a_iload_n dX5_two_40 2 rfl ?_
    refine a_iald dX5_two_41 h.1 ?_
    have h := h.2
    refine a_iconst (v := 1) dX5_two_42 (by decide) ?_
    refine a_icmp_eq (tgt := 56) dX5_two_43 (by decide) (fun c => ?_) (fun c => ?_)
    · have h := h.1 c
      refine a_sub [1, 2, 3] rfl ?_
      exact s5_two_c56 _ _ _ h
    · have h := h.2 c
      refine a_aload_n dX5_two_46 1 rfl ?_
      refine a_get3 dX5_two_47 5 (by decide) (tbc _ kF_RX5_22) (fun w h => tbc _ (uW3 w h)) rfl ob_62 rfl ?_
      refine a_iload_n dX5_two_50 3 rfl ?_
      refine a_iald dX5_two_51 h.1 ?_
      have h := h.2
      refine a_iconst (v := 1) dX5_two_52 (by decide) ?_
      refine a_icmp_ne (tgt := 61) dX5_two_53 (by decide) (fun c => ?_) (fun c => ?_)
      · have h := h.1 c
        refine a_sub [1, 2, 3, 0] rfl ?_
        exact s5_two_c61 _ _ _ _ h
      · have h := h.2 c
        refine a_sub [1, 2, 3] rfl ?_
        exact s5_two_c56 _ _ _ h
set_option maxHeartbeats 4000000 in
set_option maxRecDepth 100000 in
theorem s5_two_c30 {G : GG} {Q : Int32 → MM → Prop} : ∀ (x1 : Int32) (x2 : Int32) (M : MM), D5_two_c30 Q x1 x2 M → A5_two G Q 30 [(0, .ref (gA G 62)), (1, .int x1), (2, .int x2)] [] M := by
  intro x1 x2 M h
  unfold D5_two_c30 at h
  refine a_iconst (v := -1) dX5_two_30 (by decide) ?_
  refine a_sub [0, 1, 2] rfl ?_
  exact s5_two_c31 _ _ _ _ h
set_option maxHeartbeats 4000000 in
set_option maxRecDepth 100000 in
theorem s5_two {G : GG} {x1 : Int32} {x2 : Int32} {M : MM} {Q : Int32 → MM → Prop} (h : D5_two x1 x2 M Q) : CM G yX5_two (WY yX5_two cX5_two 7 (some .int)) 5 111 [.ref (gA G 62), .int x1, .int x2] M (qI Q) := by
  refine CM.of (cc := cX5_two) (nL := 7) (ret := (some .int)) (own := RX5) (by decide +kernel) rfl rfl (Nat.le_of_ble_eq_true rfl) ?_
  show A5_two G Q 0 [(0, .ref (gA G 62)), (1, .int x1), (2, .int x2)] [] M
  unfold D5_two at h
  refine a_aload_n dX5_two_0 0 rfl ?_
  refine a_iconst (v := 0) dX5_two_1 (by decide) ?_
  refine a_put3 dX5_two_2 9 (by decide) (tbc _ kF_RX5_73) (fun w h => tbc _ (uW3 w h)) rfl rfl rfl rfl ob_62 fs3_9 ?_
  refine a_aload_n dX5_two_5 0 rfl ?_
  refine a_iload_n dX5_two_6 1 rfl ?_
  refine a_callVi (n := 1) [.int _] (C := RX5) (ci := 3) (qc := (RX5, TX5, 40)) (fsF := fl3 G _) ob_62.1 (fun _ => en3 ob_62.2) rfl rfl dX5_two_7 (s5_isWork h) (gV tbc kM_RX5_182_X5_isWork kI_X5_isWork kS_X5_isWork kN_RX5 kC_X5_isWork) rfl (by decide +kernel) ⟨Nat.le_of_ble_eq_true rfl, Nat.le_of_ble_eq_true rfl⟩ rfl rfl (Nat.le_of_ble_eq_true rfl) ⟨Nat.le_refl 0, Nat.le_refl 0⟩ (fun r M h => ?_)
  refine a_if_eq (tgt := 30) dX5_two_10 (by decide) (fun c => ?_) (fun c => ?_)
  · have h := h.1 c
    refine a_sub [0, 1, 2] rfl ?_
    exact s5_two_c30 _ _ _ h
  · have h := h.2 c
    refine a_aload_n dX5_two_13 0 rfl ?_
    refine a_iload_n dX5_two_14 2 rfl ?_
    refine a_callVi (n := 1) [.int _] (C := RX5) (ci := 3) (qc := (RX5, TX5, 40)) (fsF := fl3 G _) ob_62.1 (fun _ => en3 ob_62.2) rfl rfl dX5_two_15 (s5_isWork h) (gV tbc kM_RX5_182_X5_isWork kI_X5_isWork kS_X5_isWork kN_RX5 kC_X5_isWork) rfl (by decide +kernel) ⟨Nat.le_of_ble_eq_true rfl, Nat.le_of_ble_eq_true rfl⟩ rfl rfl (Nat.le_of_ble_eq_true rfl) ⟨Nat.le_refl 0, Nat.le_refl 0⟩ (fun r M h => ?_)
    refine a_if_eq (tgt := 30) dX5_two_18 (by decide) (fun c => ?_) (fun c => ?_)
    · have h := h.1 c
      refine a_sub [0, 1, 2] rfl ?_
      exact s5_two_c30 _ _ _ h
    · have h := h.2 c
      refine a_iload_n dX5_two_21 1 rfl ?_
      refine a_iload_n dX5_two_22 2 rfl ?_
      refine a_icmp_eq (tgt := 30) dX5_two_23 (by decide) (fun c => ?_) (fun c => ?_)
      · have h := h.1 c
        refine a_sub [0, 1, 2] rfl ?_
        exact s5_two_c30 _ _ _ h
      · have h := h.2 c
        refine a_iconst (v := 0) dX5_two_26 (by decide) ?_
        refine a_goto (tgt := 31) dX5_two_27 (by decide) ?_
        refine a_sub [0, 1, 2] rfl ?_
        exact s5_two_c31 _ _ _ _ h

/-! X5_weakestOne -/
theorem dX5_weakestOne_0 : decode cX5_weakestOne 0 = .ok (.bipush (-9), 2) := by decide +kernel
theorem dX5_weakestOne_2 : decode cX5_weakestOne 2 = .ok (.istore_n 1, 1) := by decide +kernel
theorem dX5_weakestOne_3 : decode cX5_weakestOne 3 = .ok (.iconst 0, 1) := by decide +kernel
theorem dX5_weakestOne_4 : decode cX5_weakestOne 4 = .ok (.istore_n 2, 1) := by decide +kernel
theorem dX5_weakestOne_5 : decode cX5_weakestOne 5 = .ok (.iconst 0, 1) := by decide +kernel
theorem dX5_weakestOne_6 : decode cX5_weakestOne 6 = .ok (.istore_n 3, 1) := by decide +kernel
theorem dX5_weakestOne_7 : decode cX5_weakestOne 7 = .ok (.iload_n 3, 1) := by decide +kernel
theorem dX5_weakestOne_8 : decode cX5_weakestOne 8 = .ok (.aload_n 0, 1) := by decide +kernel
theorem dX5_weakestOne_9 : decode cX5_weakestOne 9 = .ok (.getfield 77, 3) := by decide +kernel
theorem dX5_weakestOne_12 : decode cX5_weakestOne 12 = .ok (.if_icmp .ge 72, 3) := by decide +kernel
theorem dX5_weakestOne_15 : decode cX5_weakestOne 15 = .ok (.aload_n 0, 1) := by decide +kernel
theorem dX5_weakestOne_16 : decode cX5_weakestOne 16 = .ok (.iload_n 3, 1) := by decide +kernel
theorem dX5_weakestOne_17 : decode cX5_weakestOne 17 = .ok (.invokevirtual 143, 3) := by decide +kernel
theorem dX5_weakestOne_20 : decode cX5_weakestOne 20 = .ok (.aload_n 0, 1) := by decide +kernel
theorem dX5_weakestOne_21 : decode cX5_weakestOne 21 = .ok (.getfield 19, 3) := by decide +kernel
theorem dX5_weakestOne_24 : decode cX5_weakestOne 24 = .ok (.iload_n 3, 1) := by decide +kernel
theorem dX5_weakestOne_25 : decode cX5_weakestOne 25 = .ok (.iaload, 1) := by decide +kernel
theorem dX5_weakestOne_26 : decode cX5_weakestOne 26 = .ok (.isub, 1) := by decide +kernel
theorem dX5_weakestOne_27 : decode cX5_weakestOne 27 = .ok (.istore 4, 2) := by decide +kernel
theorem dX5_weakestOne_29 : decode cX5_weakestOne 29 = .ok (.aload_n 0, 1) := by decide +kernel
theorem dX5_weakestOne_30 : decode cX5_weakestOne 30 = .ok (.getfield 22, 3) := by decide +kernel
theorem dX5_weakestOne_33 : decode cX5_weakestOne 33 = .ok (.iload_n 3, 1) := by decide +kernel
theorem dX5_weakestOne_34 : decode cX5_weakestOne 34 = .ok (.iaload, 1) := by decide +kernel
theorem dX5_weakestOne_35 : decode cX5_weakestOne 35 = .ok (.ifCond .ne 17, 3) := by decide +kernel
theorem dX5_weakestOne_38 : decode cX5_weakestOne 38 = .ok (.iload_n 1, 1) := by decide +kernel
theorem dX5_weakestOne_39 : decode cX5_weakestOne 39 = .ok (.ifCond .lt 9, 3) := by decide +kernel
theorem dX5_weakestOne_42 : decode cX5_weakestOne 42 = .ok (.iload 4, 2) := by decide +kernel
theorem dX5_weakestOne_44 : decode cX5_weakestOne 44 = .ok (.iload_n 2, 1) := by decide +kernel
theorem dX5_weakestOne_45 : decode cX5_weakestOne 45 = .ok (.if_icmp .ge 7, 3) := by decide +kernel
theorem dX5_weakestOne_48 : decode cX5_weakestOne 48 = .ok (.iconst 1, 1) := by decide +kernel
theorem dX5_weakestOne_49 : decode cX5_weakestOne 49 = .ok (.goto 4, 3) := by decide +kernel
theorem dX5_weakestOne_52 : decode cX5_weakestOne 52 = .ok (.iconst 0, 1) := by decide +kernel
theorem dX5_weakestOne_53 : decode cX5_weakestOne 53 = .ok (.istore 5, 2) := by decide +kernel
theorem dX5_weakestOne_55 : decode cX5_weakestOne 55 = .ok (.iload 5, 2) := by decide +kernel
theorem dX5_weakestOne_57 : decode cX5_weakestOne 57 = .ok (.ifCond .eq 7, 3) := by decide +kernel
theorem dX5_weakestOne_60 : decode cX5_weakestOne 60 = .ok (.iload_n 3, 1) := by decide +kernel
theorem dX5_weakestOne_61 : decode cX5_weakestOne 61 = .ok (.goto 4, 3) := by decide +kernel
theorem dX5_weakestOne_64 : decode cX5_weakestOne 64 = .ok (.iload_n 1, 1) := by decide +kernel
theorem dX5_weakestOne_65 : decode cX5_weakestOne 65 = .ok (.istore_n 1, 1) := by decide +kernel
theorem dX5_weakestOne_66 : decode cX5_weakestOne 66 = .ok (.iload 5, 2) := by decide +kernel
theorem dX5_weakestOne_68 : decode cX5_weakestOne 68 = .ok (.ifCond .eq 8, 3) := by decide +kernel
theorem dX5_weakestOne_71 : decode cX5_weakestOne 71 = .ok (.iload 4, 2) := by decide +kernel
theorem dX5_weakestOne_73 : decode cX5_weakestOne 73 = .ok (.goto 4, 3) := by decide +kernel
theorem dX5_weakestOne_76 : decode cX5_weakestOne 76 = .ok (.iload_n 2, 1) := by decide +kernel
theorem dX5_weakestOne_77 : decode cX5_weakestOne 77 = .ok (.istore_n 2, 1) := by decide +kernel
theorem dX5_weakestOne_78 : decode cX5_weakestOne 78 = .ok (.iinc 3 1, 3) := by decide +kernel
theorem dX5_weakestOne_81 : decode cX5_weakestOne 81 = .ok (.goto (-74), 3) := by decide +kernel
theorem dX5_weakestOne_84 : decode cX5_weakestOne 84 = .ok (.iload_n 1, 1) := by decide +kernel
theorem dX5_weakestOne_85 : decode cX5_weakestOne 85 = .ok (.ireturn, 1) := by decide +kernel
abbrev A5_weakestOne (G : GG) (Q : Int32 → MM → Prop) := AW G E0 (MZ G (qI Q)) (WY yX5_weakestOne cX5_weakestOne 6 (some .int)) RX5 cX5_weakestOne 6 (some .int) ({ frames := 1, cells := 0, slots := 0, locals := 22 } : Room) 0 0
def D5_weakestOne_c77 (K7 : Int32 → Int32 → Int32 → MM → Prop) (Q : Int32 → MM → Prop) (x1 : Int32) (x3 : Int32) (s0 : Int32) (M : MM) : Prop := (fun v4 : Int32 => K7 x1 s0 v4 M) (x3 + (1 : Int32))
def D5_weakestOne_c65 (K7 : Int32 → Int32 → Int32 → MM → Prop) (Q : Int32 → MM → Prop) (x2 : Int32) (x3 : Int32) (x4 : Int32) (x5 : Int32) (s0 : Int32) (M : MM) : Prop := ((x5 = 0 → D5_weakestOne_c77 K7 Q s0 x3 x2 M) ∧ (¬ x5 = 0 → D5_weakestOne_c77 K7 Q s0 x3 x4 M))
def D5_weakestOne_c53 (K7 : Int32 → Int32 → Int32 → MM → Prop) (Q : Int32 → MM → Prop) (x1 : Int32) (x2 : Int32) (x3 : Int32) (x4 : Int32) (s0 : Int32) (M : MM) : Prop := ((s0 = 0 → D5_weakestOne_c65 K7 Q x2 x3 x4 s0 x1 M) ∧ (¬ s0 = 0 → D5_weakestOne_c65 K7 Q x2 x3 x4 s0 x3 M))
def D5_weakestOne_c48 (K7 : Int32 → Int32 → Int32 → MM → Prop) (Q : Int32 → MM → Prop) (x1 : Int32) (x2 : Int32) (x3 : Int32) (x4 : Int32) (M : MM) : Prop := D5_weakestOne_c53 K7 Q x1 x2 x3 x4 (1 : Int32) M
def D5_weakestOne_c52 (K7 : Int32 → Int32 → Int32 → MM → Prop) (Q : Int32 → MM → Prop) (x1 : Int32) (x2 : Int32) (x3 : Int32) (x4 : Int32) (M : MM) : Prop := D5_weakestOne_c53 K7 Q x1 x2 x3 x4 (0 : Int32) M
def D5_weakestOne_c7 (Q : Int32 → MM → Prop) : Nat → Int32 → Int32 → Int32 → MM → Prop
  | 0, _, _, _, _ => False
  | n + 1, x1, x2, x3, M => (((M 62 0) ≤ x3 → Q x1 M) ∧ (¬ (M 62 0) ≤ x3 → D5_holdsOf x3 M (fun (r1 : Int32) (M2 : MM) => ib 66 x3 ∧ (fun v3 : Int32 => ib 67 x3 ∧ (((M2 67 (ix x3)) ≠ 0 → D5_weakestOne_c52 (D5_weakestOne_c7 Q n) Q x1 x2 x3 v3 M2) ∧ ((M2 67 (ix x3)) = 0 → ((x1 < 0 → D5_weakestOne_c48 (D5_weakestOne_c7 Q n) Q x1 x2 x3 v3 M2) ∧ (¬ x1 < 0 → ((x2 ≤ v3 → D5_weakestOne_c52 (D5_weakestOne_c7 Q n) Q x1 x2 x3 v3 M2) ∧ (¬ x2 ≤ v3 → D5_weakestOne_c48 (D5_weakestOne_c7 Q n) Q x1 x2 x3 v3 M2))))))) (r1 - (M2 66 (ix x3))))))
def D5_weakestOne (M : MM) (Q : Int32 → MM → Prop) : Prop := D5_weakestOne_c7 Q FU (-9 : Int32) (0 : Int32) (0 : Int32) M
set_option maxHeartbeats 4000000 in
set_option maxRecDepth 100000 in
theorem s5_weakestOne_c77 {G : GG} {K7 : Int32 → Int32 → Int32 → MM → Prop} {Q : Int32 → MM → Prop} (hK7 : ∀ (x1 : Int32) (x2 : Int32) (x3 : Int32) (M : MM), K7 x1 x2 x3 M → A5_weakestOne G Q 7 [(0, .ref (gA G 62)), (1, .int x1), (2, .int x2), (3, .int x3)] [] M) : ∀ (x1 : Int32) (x3 : Int32) (s0 : Int32) (M : MM), D5_weakestOne_c77 K7 Q x1 x3 s0 M → A5_weakestOne G Q 77 [(0, .ref (gA G 62)), (1, .int x1), (3, .int x3)] [.int s0] M := by
  intro x1 x3 s0 M h
  unfold D5_weakestOne_c77 at h
  refine a_istore_n (i := 2) (L' := [(2, .int _), (0, .ref _), (1, .int _), (3, .int _)]) dX5_weakestOne_77 rfl (by decide) rfl ?_
  refine a_iinc (L' := [(3, .int _), (2, .int _), (0, .ref _), (1, .int _)]) dX5_weakestOne_78 3 rfl (show _ + Int32.ofInt (1 : Int) = _ + (1 : Int32) from rfl) (by decide) rfl ?_
  refine a_goto (tgt := 7) dX5_weakestOne_81 (by decide) ?_
  refine a_sub [2, 3, 1, 0] rfl ?_
  exact hK7 _ _ _ _ h
set_option maxHeartbeats 4000000 in
set_option maxRecDepth 100000 in
theorem s5_weakestOne_c65 {G : GG} {K7 : Int32 → Int32 → Int32 → MM → Prop} {Q : Int32 → MM → Prop} (hK7 : ∀ (x1 : Int32) (x2 : Int32) (x3 : Int32) (M : MM), K7 x1 x2 x3 M → A5_weakestOne G Q 7 [(0, .ref (gA G 62)), (1, .int x1), (2, .int x2), (3, .int x3)] [] M) : ∀ (x2 : Int32) (x3 : Int32) (x4 : Int32) (x5 : Int32) (s0 : Int32) (M : MM), D5_weakestOne_c65 K7 Q x2 x3 x4 x5 s0 M → A5_weakestOne G Q 65 [(0, .ref (gA G 62)), (2, .int x2), (3, .int x3), (4, .int x4), (5, .int x5)] [.int s0] M := by
  intro x2 x3 x4 x5 s0 M h
  unfold D5_weakestOne_c65 at h
  refine a_istore_n (i := 1) (L' := [(1, .int _), (0, .ref _), (2, .int _), (3, .int _), (4, .int _), (5, .int _)]) dX5_weakestOne_65 rfl (by decide) rfl ?_
  refine a_iload dX5_weakestOne_66 5 rfl ?_
  refine a_if_eq (tgt := 76) dX5_weakestOne_68 (by decide) (fun c => ?_) (fun c => ?_)
  · have h := h.1 c
    refine a_iload_n dX5_weakestOne_76 2 rfl ?_
    refine a_sub [1, 0, 3] rfl ?_
    exact s5_weakestOne_c77 hK7 _ _ _ _ h
  · have h := h.2 c
    refine a_iload dX5_weakestOne_71 4 rfl ?_
    refine a_goto (tgt := 77) dX5_weakestOne_73 (by decide) ?_
    refine a_sub [1, 0, 3] rfl ?_
    exact s5_weakestOne_c77 hK7 _ _ _ _ h
set_option maxHeartbeats 4000000 in
set_option maxRecDepth 100000 in
theorem s5_weakestOne_c53 {G : GG} {K7 : Int32 → Int32 → Int32 → MM → Prop} {Q : Int32 → MM → Prop} (hK7 : ∀ (x1 : Int32) (x2 : Int32) (x3 : Int32) (M : MM), K7 x1 x2 x3 M → A5_weakestOne G Q 7 [(0, .ref (gA G 62)), (1, .int x1), (2, .int x2), (3, .int x3)] [] M) : ∀ (x1 : Int32) (x2 : Int32) (x3 : Int32) (x4 : Int32) (s0 : Int32) (M : MM), D5_weakestOne_c53 K7 Q x1 x2 x3 x4 s0 M → A5_weakestOne G Q 53 [(0, .ref (gA G 62)), (1, .int x1), (2, .int x2), (3, .int x3), (4, .int x4)] [.int s0] M := by
  intro x1 x2 x3 x4 s0 M h
  unfold D5_weakestOne_c53 at h
  refine a_istore (i := 5) (L' := [(5, .int _), (0, .ref _), (1, .int _), (2, .int _), (3, .int _), (4, .int _)]) dX5_weakestOne_53 (by decide) rfl ?_
  refine a_iload dX5_weakestOne_55 0 rfl ?_
  refine a_if_eq (tgt := 64) dX5_weakestOne_57 (by decide) (fun c => ?_) (fun c => ?_)
  · have h := h.1 c
    refine a_iload_n dX5_weakestOne_64 2 rfl ?_
    refine a_sub [1, 3, 4, 5, 0] rfl ?_
    exact s5_weakestOne_c65 hK7 _ _ _ _ _ _ h
  · have h := h.2 c
    refine a_iload_n dX5_weakestOne_60 4 rfl ?_
    refine a_goto (tgt := 65) dX5_weakestOne_61 (by decide) ?_
    refine a_sub [1, 3, 4, 5, 0] rfl ?_
    exact s5_weakestOne_c65 hK7 _ _ _ _ _ _ h
set_option maxHeartbeats 4000000 in
set_option maxRecDepth 100000 in
theorem s5_weakestOne_c48 {G : GG} {K7 : Int32 → Int32 → Int32 → MM → Prop} {Q : Int32 → MM → Prop} (hK7 : ∀ (x1 : Int32) (x2 : Int32) (x3 : Int32) (M : MM), K7 x1 x2 x3 M → A5_weakestOne G Q 7 [(0, .ref (gA G 62)), (1, .int x1), (2, .int x2), (3, .int x3)] [] M) : ∀ (x1 : Int32) (x2 : Int32) (x3 : Int32) (x4 : Int32) (M : MM), D5_weakestOne_c48 K7 Q x1 x2 x3 x4 M → A5_weakestOne G Q 48 [(0, .ref (gA G 62)), (1, .int x1), (2, .int x2), (3, .int x3), (4, .int x4)] [] M := by
  intro x1 x2 x3 x4 M h
  unfold D5_weakestOne_c48 at h
  refine a_iconst (v := 1) dX5_weakestOne_48 (by decide) ?_
  refine a_goto (tgt := 53) dX5_weakestOne_49 (by decide) ?_
  refine a_sub [0, 1, 2, 3, 4] rfl ?_
  exact s5_weakestOne_c53 hK7 _ _ _ _ _ _ h
set_option maxHeartbeats 4000000 in
set_option maxRecDepth 100000 in
theorem s5_weakestOne_c52 {G : GG} {K7 : Int32 → Int32 → Int32 → MM → Prop} {Q : Int32 → MM → Prop} (hK7 : ∀ (x1 : Int32) (x2 : Int32) (x3 : Int32) (M : MM), K7 x1 x2 x3 M → A5_weakestOne G Q 7 [(0, .ref (gA G 62)), (1, .int x1), (2, .int x2), (3, .int x3)] [] M) : ∀ (x1 : Int32) (x2 : Int32) (x3 : Int32) (x4 : Int32) (M : MM), D5_weakestOne_c52 K7 Q x1 x2 x3 x4 M → A5_weakestOne G Q 52 [(0, .ref (gA G 62)), (1, .int x1), (2, .int x2), (3, .int x3), (4, .int x4)] [] M := by
  intro x1 x2 x3 x4 M h
  unfold D5_weakestOne_c52 at h
  refine a_iconst (v := 0) dX5_weakestOne_52 (by decide) ?_
  refine a_sub [0, 1, 2, 3, 4] rfl ?_
  exact s5_weakestOne_c53 hK7 _ _ _ _ _ _ h
set_option maxHeartbeats 4000000 in
set_option maxRecDepth 100000 in
theorem s5_weakestOne_c7 {G : GG} {Q : Int32 → MM → Prop} : ∀ (n : Nat) (x1 : Int32) (x2 : Int32) (x3 : Int32) (M : MM), D5_weakestOne_c7 Q n x1 x2 x3 M → A5_weakestOne G Q 7 [(0, .ref (gA G 62)), (1, .int x1), (2, .int x2), (3, .int x3)] [] M := by
  intro n
  induction n with
  | zero => intro x1 x2 x3 M h; exact h.elim
  | succ n ih =>
    intro x1 x2 x3 M h
    unfold D5_weakestOne_c7 at h
    refine a_iload_n dX5_weakestOne_7 3 rfl ?_
    refine a_aload_n dX5_weakestOne_8 0 rfl ?_
    refine a_get3 dX5_weakestOne_9 0 (by decide) (tbc _ kF_RX5_77) (fun w h => tbc _ (uW3 w h)) rfl ob_62 rfl ?_
    refine a_icmp_ge (tgt := 84) dX5_weakestOne_12 (by decide) (fun c => ?_) (fun c => ?_)
    · have h := h.1 c
      refine a_iload_n dX5_weakestOne_84 1 rfl ?_
      exact a_iret dX5_weakestOne_85 ⟨_, rfl, h⟩
    · have h := h.2 c
      refine a_aload_n dX5_weakestOne_15 0 rfl ?_
      refine a_iload_n dX5_weakestOne_16 3 rfl ?_
      refine a_callVi (n := 1) [.int _] (C := RX5) (ci := 3) (qc := (RX5, TX5, 40)) (fsF := fl3 G _) ob_62.1 (fun _ => en3 ob_62.2) rfl rfl dX5_weakestOne_17 (s5_holdsOf h) (gV tbc kM_RX5_143_X5_holdsOf kI_X5_holdsOf kS_X5_holdsOf kN_RX5 kC_X5_holdsOf) rfl (by decide +kernel) ⟨Nat.le_of_ble_eq_true rfl, Nat.le_of_ble_eq_true rfl⟩ rfl rfl (Nat.le_of_ble_eq_true rfl) ⟨Nat.le_refl 0, Nat.le_refl 0⟩ (fun r M h => ?_)
      refine a_aload_n dX5_weakestOne_20 0 rfl ?_
      refine a_get3 dX5_weakestOne_21 4 (by decide) (tbc _ kF_RX5_19) (fun w h => tbc _ (uW3 w h)) rfl ob_62 rfl ?_
      refine a_iload_n dX5_weakestOne_24 3 rfl ?_
      refine a_iald dX5_weakestOne_25 h.1 ?_
      have h := h.2
      refine a_isub dX5_weakestOne_26 ?_
      refine a_istore (i := 4) (L' := [(4, .int _), (0, .ref _), (1, .int _), (2, .int _), (3, .int _)]) dX5_weakestOne_27 (by decide) rfl ?_
      refine a_aload_n dX5_weakestOne_29 1 rfl ?_
      refine a_get3 dX5_weakestOne_30 5 (by decide) (tbc _ kF_RX5_22) (fun w h => tbc _ (uW3 w h)) rfl ob_62 rfl ?_
      refine a_iload_n dX5_weakestOne_33 4 rfl ?_
      refine a_iald dX5_weakestOne_34 h.1 ?_
      have h := h.2
      refine a_if_ne (tgt := 52) dX5_weakestOne_35 (by decide) (fun c => ?_) (fun c => ?_)
      · have h := h.1 c
        refine a_sub [1, 2, 3, 4, 0] rfl ?_
        exact s5_weakestOne_c52 ih _ _ _ _ _ h
      · have h := h.2 c
        refine a_iload_n dX5_weakestOne_38 2 rfl ?_
        refine a_if_lt (tgt := 48) dX5_weakestOne_39 (by decide) (fun c => ?_) (fun c => ?_)
        · have h := h.1 c
          refine a_sub [1, 2, 3, 4, 0] rfl ?_
          exact s5_weakestOne_c48 ih _ _ _ _ _ h
        · have h := h.2 c
          refine a_iload dX5_weakestOne_42 0 rfl ?_
          refine a_iload_n dX5_weakestOne_44 3 rfl ?_
          refine a_icmp_ge (tgt := 52) dX5_weakestOne_45 (by decide) (fun c => ?_) (fun c => ?_)
          · have h := h.1 c
            refine a_sub [1, 2, 3, 4, 0] rfl ?_
            exact s5_weakestOne_c52 ih _ _ _ _ _ h
          · have h := h.2 c
            refine a_sub [1, 2, 3, 4, 0] rfl ?_
            exact s5_weakestOne_c48 ih _ _ _ _ _ h
set_option maxHeartbeats 4000000 in
set_option maxRecDepth 100000 in
theorem s5_weakestOne {G : GG} {M : MM} {Q : Int32 → MM → Prop} (h : D5_weakestOne M Q) : CM G yX5_weakestOne (WY yX5_weakestOne cX5_weakestOne 6 (some .int)) 1 22 [.ref (gA G 62)] M (qI Q) := by
  refine CM.of (cc := cX5_weakestOne) (nL := 6) (ret := (some .int)) (own := RX5) (by decide +kernel) rfl rfl (Nat.le_of_ble_eq_true rfl) ?_
  show A5_weakestOne G Q 0 [(0, .ref (gA G 62))] [] M
  unfold D5_weakestOne at h
  refine a_bipush (v := -9) dX5_weakestOne_0 (by decide) ?_
  refine a_istore_n (i := 1) (L' := [(1, .int _), (0, .ref _)]) dX5_weakestOne_2 rfl (by decide) rfl ?_
  refine a_iconst (v := 0) dX5_weakestOne_3 (by decide) ?_
  refine a_istore_n (i := 2) (L' := [(2, .int _), (1, .int _), (0, .ref _)]) dX5_weakestOne_4 rfl (by decide) rfl ?_
  refine a_iconst (v := 0) dX5_weakestOne_5 (by decide) ?_
  refine a_istore_n (i := 3) (L' := [(3, .int _), (2, .int _), (1, .int _), (0, .ref _)]) dX5_weakestOne_6 rfl (by decide) rfl ?_
  refine a_sub [3, 2, 1, 0] rfl ?_
  exact s5_weakestOne_c7 _ _ _ _ _ h

/-! X5_weakest -/
theorem dX5_weakest_0 : decode cX5_weakest 0 = .ok (.aload_n 0, 1) := by decide +kernel
theorem dX5_weakest_1 : decode cX5_weakest 1 = .ok (.iconst 0, 1) := by decide +kernel
theorem dX5_weakest_2 : decode cX5_weakest 2 = .ok (.putfield 73, 3) := by decide +kernel
theorem dX5_weakest_5 : decode cX5_weakest 5 = .ok (.iload_n 1, 1) := by decide +kernel
theorem dX5_weakest_6 : decode cX5_weakest 6 = .ok (.tableswitch 58 0 3 #[30, 35, 40, 45], 30) := by decide +kernel
theorem dX5_weakest_36 : decode cX5_weakest 36 = .ok (.aload_n 0, 1) := by decide +kernel
theorem dX5_weakest_37 : decode cX5_weakest 37 = .ok (.invokevirtual 320, 3) := by decide +kernel
theorem dX5_weakest_40 : decode cX5_weakest 40 = .ok (.ireturn, 1) := by decide +kernel
theorem dX5_weakest_41 : decode cX5_weakest 41 = .ok (.aload_n 0, 1) := by decide +kernel
theorem dX5_weakest_42 : decode cX5_weakest 42 = .ok (.invokevirtual 323, 3) := by decide +kernel
theorem dX5_weakest_45 : decode cX5_weakest 45 = .ok (.ireturn, 1) := by decide +kernel
theorem dX5_weakest_46 : decode cX5_weakest 46 = .ok (.aload_n 0, 1) := by decide +kernel
theorem dX5_weakest_47 : decode cX5_weakest 47 = .ok (.invokevirtual 326, 3) := by decide +kernel
theorem dX5_weakest_50 : decode cX5_weakest 50 = .ok (.ireturn, 1) := by decide +kernel
theorem dX5_weakest_51 : decode cX5_weakest 51 = .ok (.aload_n 0, 1) := by decide +kernel
theorem dX5_weakest_52 : decode cX5_weakest 52 = .ok (.getfield 77, 3) := by decide +kernel
theorem dX5_weakest_55 : decode cX5_weakest 55 = .ok (.aload_n 0, 1) := by decide +kernel
theorem dX5_weakest_56 : decode cX5_weakest 56 = .ok (.invokevirtual 251, 3) := by decide +kernel
theorem dX5_weakest_59 : decode cX5_weakest 59 = .ok (.invokestatic 254, 3) := by decide +kernel
theorem dX5_weakest_62 : decode cX5_weakest 62 = .ok (.isub, 1) := by decide +kernel
theorem dX5_weakest_63 : decode cX5_weakest 63 = .ok (.ireturn, 1) := by decide +kernel
theorem dX5_weakest_64 : decode cX5_weakest 64 = .ok (.aload_n 0, 1) := by decide +kernel
theorem dX5_weakest_65 : decode cX5_weakest 65 = .ok (.bipush (-2), 2) := by decide +kernel
theorem dX5_weakest_67 : decode cX5_weakest 67 = .ok (.invokevirtual 149, 3) := by decide +kernel
theorem dX5_weakest_70 : decode cX5_weakest 70 = .ok (.ireturn, 1) := by decide +kernel
abbrev A5_weakest (G : GG) (Q : Int32 → MM → Prop) := AW G E0 (MZ G (qI Q)) (WY yX5_weakest cX5_weakest 2 (some .int)) RX5 cX5_weakest 2 (some .int) ({ frames := 2, cells := 0, slots := 0, locals := 47 } : Room) 0 0
def D5_weakest (x1 : Int32) (M : MM) (Q : Int32 → MM → Prop) : Prop := (fun M1 : MM => ((x1 = 0 → D5_weakestOne M1 (fun (r2 : Int32) (M3 : MM) => Q r2 M3)) ∧ (¬ x1 = 0 → ((x1 = 1 → D5_aloneBits M1 (fun (r4 : Int32) (M5 : MM) => Q r4 M5)) ∧ (¬ x1 = 1 → ((x1 = 2 → D5_highestOne M1 (fun (r6 : Int32) (M7 : MM) => Q r6 M7)) ∧ (¬ x1 = 2 → ((x1 = 3 → D5_standing M1 (fun (r8 : Int32) (M9 : MM) => D5_onesOf r8 M9 (fun (r10 : Int32) (M11 : MM) => Q ((M1 62 0) - r10) M11))) ∧ (¬ x1 = 3 → D5_refuse (-2 : Int32) M1 (fun (r12 : Int32) (M13 : MM) => Q r12 M13)))))))))) (up M 62 9 (0 : Int32))
set_option maxHeartbeats 4000000 in
set_option maxRecDepth 100000 in
theorem s5_weakest {G : GG} {x1 : Int32} {M : MM} {Q : Int32 → MM → Prop} (h : D5_weakest x1 M Q) : CM G yX5_weakest (WY yX5_weakest cX5_weakest 2 (some .int)) 2 47 [.ref (gA G 62), .int x1] M (qI Q) := by
  refine CM.of (cc := cX5_weakest) (nL := 2) (ret := (some .int)) (own := RX5) (by decide +kernel) rfl rfl (Nat.le_of_ble_eq_true rfl) ?_
  show A5_weakest G Q 0 [(0, .ref (gA G 62)), (1, .int x1)] [] M
  unfold D5_weakest at h
  refine a_aload_n dX5_weakest_0 0 rfl ?_
  refine a_iconst (v := 0) dX5_weakest_1 (by decide) ?_
  refine a_put3 dX5_weakest_2 9 (by decide) (tbc _ kF_RX5_73) (fun w h => tbc _ (uW3 w h)) rfl rfl rfl rfl ob_62 fs3_9 ?_
  refine a_iload_n dX5_weakest_5 1 rfl ?_
  refine em_c h (fun c0 h => ?_) (fun c0 h => ?_)
  · refine a_tableIn (off := 30) (tgt := 36) dX5_weakest_6 (by rw [c0]; decide) (by rw [c0]; decide) (by rw [c0]; rfl) (by decide) ?_
    refine a_aload_n dX5_weakest_36 0 rfl ?_
    refine a_callVi (n := 0) [] (C := RX5) (ci := 3) (qc := (RX5, TX5, 40)) (fsF := fl3 G _) ob_62.1 (fun _ => en3 ob_62.2) rfl rfl dX5_weakest_37 (s5_weakestOne h) (gV tbc kM_RX5_320_X5_weakestOne kI_X5_weakestOne kS_X5_weakestOne kN_RX5 kC_X5_weakestOne) rfl (by decide +kernel) ⟨Nat.le_of_ble_eq_true rfl, Nat.le_of_ble_eq_true rfl⟩ rfl rfl (Nat.le_of_ble_eq_true rfl) ⟨Nat.le_refl 0, Nat.le_refl 0⟩ (fun r M h => ?_)
    exact a_iret dX5_weakest_40 ⟨_, rfl, h⟩
  · refine em_c h (fun c1 h => ?_) (fun c1 h => ?_)
    · refine a_tableIn (off := 35) (tgt := 41) dX5_weakest_6 (by rw [c1]; decide) (by rw [c1]; decide) (by rw [c1]; rfl) (by decide) ?_
      refine a_aload_n dX5_weakest_41 0 rfl ?_
      refine a_callVi (n := 0) [] (C := RX5) (ci := 3) (qc := (RX5, TX5, 40)) (fsF := fl3 G _) ob_62.1 (fun _ => en3 ob_62.2) rfl rfl dX5_weakest_42 (s5_aloneBits h) (gV tbc kM_RX5_323_X5_aloneBits kI_X5_aloneBits kS_X5_aloneBits kN_RX5 kC_X5_aloneBits) rfl (by decide +kernel) ⟨Nat.le_of_ble_eq_true rfl, Nat.le_of_ble_eq_true rfl⟩ rfl rfl (Nat.le_of_ble_eq_true rfl) ⟨Nat.le_refl 0, Nat.le_refl 0⟩ (fun r M h => ?_)
      exact a_iret dX5_weakest_45 ⟨_, rfl, h⟩
    · refine em_c h (fun c2 h => ?_) (fun c2 h => ?_)
      · refine a_tableIn (off := 40) (tgt := 46) dX5_weakest_6 (by rw [c2]; decide) (by rw [c2]; decide) (by rw [c2]; rfl) (by decide) ?_
        refine a_aload_n dX5_weakest_46 0 rfl ?_
        refine a_callVi (n := 0) [] (C := RX5) (ci := 3) (qc := (RX5, TX5, 40)) (fsF := fl3 G _) ob_62.1 (fun _ => en3 ob_62.2) rfl rfl dX5_weakest_47 (s5_highestOne h) (gV tbc kM_RX5_326_X5_highestOne kI_X5_highestOne kS_X5_highestOne kN_RX5 kC_X5_highestOne) rfl (by decide +kernel) ⟨Nat.le_of_ble_eq_true rfl, Nat.le_of_ble_eq_true rfl⟩ rfl rfl (Nat.le_of_ble_eq_true rfl) ⟨Nat.le_refl 0, Nat.le_refl 0⟩ (fun r M h => ?_)
        exact a_iret dX5_weakest_50 ⟨_, rfl, h⟩
      · refine em_c h (fun c3 h => ?_) (fun c3 h => ?_)
        · refine a_tableIn (off := 45) (tgt := 51) dX5_weakest_6 (by rw [c3]; decide) (by rw [c3]; decide) (by rw [c3]; rfl) (by decide) ?_
          refine a_aload_n dX5_weakest_51 0 rfl ?_
          refine a_get3 dX5_weakest_52 0 (by decide) (tbc _ kF_RX5_77) (fun w h => tbc _ (uW3 w h)) rfl ob_62 rfl ?_
          refine a_aload_n dX5_weakest_55 0 rfl ?_
          refine a_callVi (n := 0) [] (C := RX5) (ci := 3) (qc := (RX5, TX5, 40)) (fsF := fl3 G _) ob_62.1 (fun _ => en3 ob_62.2) rfl rfl dX5_weakest_56 (s5_standing h) (gV tbc kM_RX5_251_X5_standing kI_X5_standing kS_X5_standing kN_RX5 kC_X5_standing) rfl (by decide +kernel) ⟨Nat.le_of_ble_eq_true rfl, Nat.le_of_ble_eq_true rfl⟩ rfl rfl (Nat.le_of_ble_eq_true rfl) ⟨Nat.le_refl 0, Nat.le_refl 0⟩ (fun r M h => ?_)
          refine a_callSi (n := 1) [.int _] dX5_weakest_59 (s5_onesOf h) (gS tbc kM_RX5_254_X5_onesOf kT_X5_onesOf kN_RX5 kC_X5_onesOf) rfl (by decide +kernel) ⟨Nat.le_of_ble_eq_true rfl, Nat.le_of_ble_eq_true rfl⟩ rfl rfl (Nat.le_of_ble_eq_true rfl) ⟨Nat.le_refl 0, Nat.le_refl 0⟩ (fun r M h => ?_)
          refine a_isub dX5_weakest_62 ?_
          exact a_iret dX5_weakest_63 ⟨_, rfl, h⟩
        · refine a_tableD (tgt := 64) dX5_weakest_6 (by decide) (fun k h1 h2 e => by have hk : k = 0 ∨ k = 1 ∨ k = 2 ∨ k = 3 := (by omega); rcases hk with rfl | rfl | rfl | rfl <;> first | rfl | exact absurd e (ne_ti c0 (by decide)) | exact absurd e (ne_ti c1 (by decide)) | exact absurd e (ne_ti c2 (by decide)) | exact absurd e (ne_ti c3 (by decide))) ?_
          refine a_aload_n dX5_weakest_64 0 rfl ?_
          refine a_bipush (v := -2) dX5_weakest_65 (by decide) ?_
          refine a_callVi (n := 1) [.int _] (C := RX5) (ci := 3) (qc := (RX5, TX5, 40)) (fsF := fl3 G _) ob_62.1 (fun _ => en3 ob_62.2) rfl rfl dX5_weakest_67 (s5_refuse h) (gV tbc kM_RX5_149_X5_refuse kI_X5_refuse kS_X5_refuse kN_RX5 kC_X5_refuse) rfl (by decide +kernel) ⟨Nat.le_of_ble_eq_true rfl, Nat.le_of_ble_eq_true rfl⟩ rfl rfl (Nat.le_of_ble_eq_true rfl) ⟨Nat.le_refl 0, Nat.le_refl 0⟩ (fun r M h => ?_)
          exact a_iret dX5_weakest_70 ⟨_, rfl, h⟩

/-! X5_wet -/
theorem dX5_wet_0 : decode cX5_wet 0 = .ok (.aload_n 0, 1) := by decide +kernel
theorem dX5_wet_1 : decode cX5_wet 1 = .ok (.iconst 0, 1) := by decide +kernel
theorem dX5_wet_2 : decode cX5_wet 2 = .ok (.putfield 73, 3) := by decide +kernel
theorem dX5_wet_5 : decode cX5_wet 5 = .ok (.iload_n 1, 1) := by decide +kernel
theorem dX5_wet_6 : decode cX5_wet 6 = .ok (.iconst 0, 1) := by decide +kernel
theorem dX5_wet_7 : decode cX5_wet 7 = .ok (.bipush 60, 2) := by decide +kernel
theorem dX5_wet_9 : decode cX5_wet 9 = .ok (.invokestatic 244, 3) := by decide +kernel
theorem dX5_wet_12 : decode cX5_wet 12 = .ok (.istore_n 2, 1) := by decide +kernel
theorem dX5_wet_13 : decode cX5_wet 13 = .ok (.iload_n 2, 1) := by decide +kernel
theorem dX5_wet_14 : decode cX5_wet 14 = .ok (.ifCond .ge 9, 3) := by decide +kernel
theorem dX5_wet_17 : decode cX5_wet 17 = .ok (.aload_n 0, 1) := by decide +kernel
theorem dX5_wet_18 : decode cX5_wet 18 = .ok (.iload_n 2, 1) := by decide +kernel
theorem dX5_wet_19 : decode cX5_wet 19 = .ok (.invokevirtual 149, 3) := by decide +kernel
theorem dX5_wet_22 : decode cX5_wet 22 = .ok (.ireturn, 1) := by decide +kernel
theorem dX5_wet_23 : decode cX5_wet 23 = .ok (.aload_n 0, 1) := by decide +kernel
theorem dX5_wet_24 : decode cX5_wet 24 = .ok (.invokevirtual 209, 3) := by decide +kernel
theorem dX5_wet_27 : decode cX5_wet 27 = .ok (.aload_n 0, 1) := by decide +kernel
theorem dX5_wet_28 : decode cX5_wet 28 = .ok (.iload_n 1, 1) := by decide +kernel
theorem dX5_wet_29 : decode cX5_wet 29 = .ok (.invokevirtual 200, 3) := by decide +kernel
theorem dX5_wet_32 : decode cX5_wet 32 = .ok (.aload_n 0, 1) := by decide +kernel
theorem dX5_wet_33 : decode cX5_wet 33 = .ok (.invokevirtual 257, 3) := by decide +kernel
theorem dX5_wet_36 : decode cX5_wet 36 = .ok (.istore_n 3, 1) := by decide +kernel
theorem dX5_wet_37 : decode cX5_wet 37 = .ok (.aload_n 0, 1) := by decide +kernel
theorem dX5_wet_38 : decode cX5_wet 38 = .ok (.invokevirtual 215, 3) := by decide +kernel
theorem dX5_wet_41 : decode cX5_wet 41 = .ok (.iload_n 3, 1) := by decide +kernel
theorem dX5_wet_42 : decode cX5_wet 42 = .ok (.ireturn, 1) := by decide +kernel
abbrev A5_wet (G : GG) (Q : Int32 → MM → Prop) := AW G E0 (MZ G (qI Q)) (WY yX5_wet cX5_wet 4 (some .int)) RX5 cX5_wet 4 (some .int) ({ frames := 5, cells := 0, slots := 0, locals := 111 } : Room) 0 0
def D5_wet (x1 : Int32) (M : MM) (Q : Int32 → MM → Prop) : Prop := (fun M1 : MM => D5_wrongNumber x1 (0 : Int32) (60 : Int32) M1 (fun (r2 : Int32) (M3 : MM) => ((0 ≤ r2 → D5_think M3 (fun (M5 : MM) => D5_goHours x1 M5 (fun (M7 : MM) => D5_wetNow M7 (fun (r8 : Int32) (M9 : MM) => D5_again M9 (fun (M11 : MM) => Q r8 M11))))) ∧ (¬ 0 ≤ r2 → D5_refuse r2 M3 (fun (r12 : Int32) (M13 : MM) => Q r12 M13))))) (up M 62 9 (0 : Int32))
set_option maxHeartbeats 4000000 in
set_option maxRecDepth 100000 in
theorem s5_wet {G : GG} {x1 : Int32} {M : MM} {Q : Int32 → MM → Prop} (h : D5_wet x1 M Q) : CM G yX5_wet (WY yX5_wet cX5_wet 4 (some .int)) 5 111 [.ref (gA G 62), .int x1] M (qI Q) := by
  refine CM.of (cc := cX5_wet) (nL := 4) (ret := (some .int)) (own := RX5) (by decide +kernel) rfl rfl (Nat.le_of_ble_eq_true rfl) ?_
  show A5_wet G Q 0 [(0, .ref (gA G 62)), (1, .int x1)] [] M
  unfold D5_wet at h
  refine a_aload_n dX5_wet_0 0 rfl ?_
  refine a_iconst (v := 0) dX5_wet_1 (by decide) ?_
  refine a_put3 dX5_wet_2 9 (by decide) (tbc _ kF_RX5_73) (fun w h => tbc _ (uW3 w h)) rfl rfl rfl rfl ob_62 fs3_9 ?_
  refine a_iload_n dX5_wet_5 1 rfl ?_
  refine a_iconst (v := 0) dX5_wet_6 (by decide) ?_
  refine a_bipush (v := 60) dX5_wet_7 (by decide) ?_
  refine a_callSi (n := 3) [.int _, .int _, .int _] dX5_wet_9 (s5_wrongNumber h) (gS tbc kM_RX5_244_X5_wrongNumber kT_X5_wrongNumber kN_RX5 kC_X5_wrongNumber) rfl (by decide +kernel) ⟨Nat.le_of_ble_eq_true rfl, Nat.le_of_ble_eq_true rfl⟩ rfl rfl (Nat.le_of_ble_eq_true rfl) ⟨Nat.le_refl 0, Nat.le_refl 0⟩ (fun r M h => ?_)
  refine a_istore_n (i := 2) (L' := [(2, .int _), (0, .ref _), (1, .int _)]) dX5_wet_12 rfl (by decide) rfl ?_
  refine a_iload_n dX5_wet_13 0 rfl ?_
  refine a_if_ge (tgt := 23) dX5_wet_14 (by decide) (fun c => ?_) (fun c => ?_)
  · have h := h.1 c
    refine a_aload_n dX5_wet_23 1 rfl ?_
    refine a_callVv (n := 0) [] (C := RX5) (ci := 3) (qc := (RX5, TX5, 40)) (fsF := fl3 G _) ob_62.1 (fun _ => en3 ob_62.2) rfl rfl dX5_wet_24 (s5_think h) (gV tbc kM_RX5_209_X5_think kI_X5_think kS_X5_think kN_RX5 kC_X5_think) rfl (by decide +kernel) ⟨Nat.le_of_ble_eq_true rfl, Nat.le_of_ble_eq_true rfl⟩ rfl rfl (Nat.le_of_ble_eq_true rfl) ⟨Nat.le_refl 0, Nat.le_refl 0⟩ (fun M h => ?_)
    refine a_aload_n dX5_wet_27 1 rfl ?_
    refine a_iload_n dX5_wet_28 2 rfl ?_
    refine a_callVv (n := 1) [.int _] (C := RX5) (ci := 3) (qc := (RX5, TX5, 40)) (fsF := fl3 G _) ob_62.1 (fun _ => en3 ob_62.2) rfl rfl dX5_wet_29 (s5_goHours h) (gV tbc kM_RX5_200_X5_goHours kI_X5_goHours kS_X5_goHours kN_RX5 kC_X5_goHours) rfl (by decide +kernel) ⟨Nat.le_of_ble_eq_true rfl, Nat.le_of_ble_eq_true rfl⟩ rfl rfl (Nat.le_of_ble_eq_true rfl) ⟨Nat.le_refl 0, Nat.le_refl 0⟩ (fun M h => ?_)
    refine a_aload_n dX5_wet_32 1 rfl ?_
    refine a_callVi (n := 0) [] (C := RX5) (ci := 3) (qc := (RX5, TX5, 40)) (fsF := fl3 G _) ob_62.1 (fun _ => en3 ob_62.2) rfl rfl dX5_wet_33 (s5_wetNow h) (gV tbc kM_RX5_257_X5_wetNow kI_X5_wetNow kS_X5_wetNow kN_RX5 kC_X5_wetNow) rfl (by decide +kernel) ⟨Nat.le_of_ble_eq_true rfl, Nat.le_of_ble_eq_true rfl⟩ rfl rfl (Nat.le_of_ble_eq_true rfl) ⟨Nat.le_refl 0, Nat.le_refl 0⟩ (fun r M h => ?_)
    refine a_istore_n (i := 3) (L' := [(3, .int _), (2, .int _), (0, .ref _), (1, .int _)]) dX5_wet_36 rfl (by decide) rfl ?_
    refine a_aload_n dX5_wet_37 2 rfl ?_
    refine a_callVv (n := 0) [] (C := RX5) (ci := 3) (qc := (RX5, TX5, 40)) (fsF := fl3 G _) ob_62.1 (fun _ => en3 ob_62.2) rfl rfl dX5_wet_38 (s5_again h) (gV tbc kM_RX5_215_X5_again kI_X5_again kS_X5_again kN_RX5 kC_X5_again) rfl (by decide +kernel) ⟨Nat.le_of_ble_eq_true rfl, Nat.le_of_ble_eq_true rfl⟩ rfl rfl (Nat.le_of_ble_eq_true rfl) ⟨Nat.le_refl 0, Nat.le_refl 0⟩ (fun M h => ?_)
    refine a_iload_n dX5_wet_41 0 rfl ?_
    exact a_iret dX5_wet_42 ⟨_, rfl, h⟩
  · have h := h.2 c
    refine a_aload_n dX5_wet_17 1 rfl ?_
    refine a_iload_n dX5_wet_18 0 rfl ?_
    refine a_callVi (n := 1) [.int _] (C := RX5) (ci := 3) (qc := (RX5, TX5, 40)) (fsF := fl3 G _) ob_62.1 (fun _ => en3 ob_62.2) rfl rfl dX5_wet_19 (s5_refuse h) (gV tbc kM_RX5_149_X5_refuse kI_X5_refuse kS_X5_refuse kN_RX5 kC_X5_refuse) rfl (by decide +kernel) ⟨Nat.le_of_ble_eq_true rfl, Nat.le_of_ble_eq_true rfl⟩ rfl rfl (Nat.le_of_ble_eq_true rfl) ⟨Nat.le_refl 0, Nat.le_refl 0⟩ (fun r M h => ?_)
    exact a_iret dX5_wet_22 ⟨_, rfl, h⟩

/-! X5_whatWas -/
theorem dX5_whatWas_0 : decode cX5_whatWas 0 = .ok (.aload_n 0, 1) := by decide +kernel
theorem dX5_whatWas_1 : decode cX5_whatWas 1 = .ok (.iconst 0, 1) := by decide +kernel
theorem dX5_whatWas_2 : decode cX5_whatWas 2 = .ok (.putfield 73, 3) := by decide +kernel
theorem dX5_whatWas_5 : decode cX5_whatWas 5 = .ok (.aload_n 0, 1) := by decide +kernel
theorem dX5_whatWas_6 : decode cX5_whatWas 6 = .ok (.iload_n 1, 1) := by decide +kernel
theorem dX5_whatWas_7 : decode cX5_whatWas 7 = .ok (.invokevirtual 182, 3) := by decide +kernel
theorem dX5_whatWas_10 : decode cX5_whatWas 10 = .ok (.ifCond .eq 7, 3) := by decide +kernel
theorem dX5_whatWas_13 : decode cX5_whatWas 13 = .ok (.iconst 0, 1) := by decide +kernel
theorem dX5_whatWas_14 : decode cX5_whatWas 14 = .ok (.goto 4, 3) := by decide +kernel
theorem dX5_whatWas_17 : decode cX5_whatWas 17 = .ok (.iconst (-1), 1) := by decide +kernel
theorem dX5_whatWas_18 : decode cX5_whatWas 18 = .ok (.iload_n 2, 1) := by decide +kernel
theorem dX5_whatWas_19 : decode cX5_whatWas 19 = .ok (.iconst 1, 1) := by decide +kernel
theorem dX5_whatWas_20 : decode cX5_whatWas 20 = .ok (.invokestatic 260, 3) := by decide +kernel
theorem dX5_whatWas_23 : decode cX5_whatWas 23 = .ok (.istore_n 3, 1) := by decide +kernel
theorem dX5_whatWas_24 : decode cX5_whatWas 24 = .ok (.iload_n 3, 1) := by decide +kernel
theorem dX5_whatWas_25 : decode cX5_whatWas 25 = .ok (.ifCond .ge 9, 3) := by decide +kernel
theorem dX5_whatWas_28 : decode cX5_whatWas 28 = .ok (.aload_n 0, 1) := by decide +kernel
theorem dX5_whatWas_29 : decode cX5_whatWas 29 = .ok (.iload_n 3, 1) := by decide +kernel
theorem dX5_whatWas_30 : decode cX5_whatWas 30 = .ok (.invokevirtual 149, 3) := by decide +kernel
theorem dX5_whatWas_33 : decode cX5_whatWas 33 = .ok (.ireturn, 1) := by decide +kernel
theorem dX5_whatWas_34 : decode cX5_whatWas 34 = .ok (.iconst 0, 1) := by decide +kernel
theorem dX5_whatWas_35 : decode cX5_whatWas 35 = .ok (.istore 4, 2) := by decide +kernel
theorem dX5_whatWas_37 : decode cX5_whatWas 37 = .ok (.aload_n 0, 1) := by decide +kernel
theorem dX5_whatWas_38 : decode cX5_whatWas 38 = .ok (.invokevirtual 209, 3) := by decide +kernel
theorem dX5_whatWas_41 : decode cX5_whatWas 41 = .ok (.iconst 0, 1) := by decide +kernel
theorem dX5_whatWas_42 : decode cX5_whatWas 42 = .ok (.istore 5, 2) := by decide +kernel
theorem dX5_whatWas_44 : decode cX5_whatWas 44 = .ok (.iload 5, 2) := by decide +kernel
theorem dX5_whatWas_46 : decode cX5_whatWas 46 = .ok (.iload_n 2, 1) := by decide +kernel
theorem dX5_whatWas_47 : decode cX5_whatWas 47 = .ok (.ifCond .ne 8, 3) := by decide +kernel
theorem dX5_whatWas_50 : decode cX5_whatWas 50 = .ok (.bipush 6, 2) := by decide +kernel
theorem dX5_whatWas_52 : decode cX5_whatWas 52 = .ok (.goto 5, 3) := by decide +kernel
theorem dX5_whatWas_55 : decode cX5_whatWas 55 = .ok (.bipush 10, 2) := by decide +kernel
theorem dX5_whatWas_57 : decode cX5_whatWas 57 = .ok (.if_icmp .ge 73, 3) := by decide +kernel
theorem dX5_whatWas_60 : decode cX5_whatWas 60 = .ok (.aload_n 0, 1) := by decide +kernel
theorem dX5_whatWas_61 : decode cX5_whatWas 61 = .ok (.getfield 7, 3) := by decide +kernel
theorem dX5_whatWas_64 : decode cX5_whatWas 64 = .ok (.iload_n 1, 1) := by decide +kernel
theorem dX5_whatWas_65 : decode cX5_whatWas 65 = .ok (.iload_n 2, 1) := by decide +kernel
theorem dX5_whatWas_66 : decode cX5_whatWas 66 = .ok (.ifCond .ne 8, 3) := by decide +kernel
theorem dX5_whatWas_69 : decode cX5_whatWas 69 = .ok (.iload 5, 2) := by decide +kernel
theorem dX5_whatWas_71 : decode cX5_whatWas 71 = .ok (.goto 9, 3) := by decide +kernel
theorem dX5_whatWas_74 : decode cX5_whatWas 74 = .ok (.aload_n 0, 1) := by decide +kernel
theorem dX5_whatWas_75 : decode cX5_whatWas 75 = .ok (.getfield 7, 3) := by decide +kernel
theorem dX5_whatWas_78 : decode cX5_whatWas 78 = .ok (.iload_n 1, 1) := by decide +kernel
theorem dX5_whatWas_79 : decode cX5_whatWas 79 = .ok (.iaload, 1) := by decide +kernel
theorem dX5_whatWas_80 : decode cX5_whatWas 80 = .ok (.iastore, 1) := by decide +kernel
theorem dX5_whatWas_81 : decode cX5_whatWas 81 = .ok (.aload_n 0, 1) := by decide +kernel
theorem dX5_whatWas_82 : decode cX5_whatWas 82 = .ok (.getfield 13, 3) := by decide +kernel
theorem dX5_whatWas_85 : decode cX5_whatWas 85 = .ok (.iload_n 1, 1) := by decide +kernel
theorem dX5_whatWas_86 : decode cX5_whatWas 86 = .ok (.iload_n 2, 1) := by decide +kernel
theorem dX5_whatWas_87 : decode cX5_whatWas 87 = .ok (.iconst 1, 1) := by decide +kernel
theorem dX5_whatWas_88 : decode cX5_whatWas 88 = .ok (.if_icmp .ne 8, 3) := by decide +kernel
theorem dX5_whatWas_91 : decode cX5_whatWas 91 = .ok (.iload 5, 2) := by decide +kernel
theorem dX5_whatWas_93 : decode cX5_whatWas 93 = .ok (.goto 9, 3) := by decide +kernel
theorem dX5_whatWas_96 : decode cX5_whatWas 96 = .ok (.aload_n 0, 1) := by decide +kernel
theorem dX5_whatWas_97 : decode cX5_whatWas 97 = .ok (.getfield 13, 3) := by decide +kernel
theorem dX5_whatWas_100 : decode cX5_whatWas 100 = .ok (.iload_n 1, 1) := by decide +kernel
theorem dX5_whatWas_101 : decode cX5_whatWas 101 = .ok (.iaload, 1) := by decide +kernel
theorem dX5_whatWas_102 : decode cX5_whatWas 102 = .ok (.iastore, 1) := by decide +kernel
theorem dX5_whatWas_103 : decode cX5_whatWas 103 = .ok (.iload 4, 2) := by decide +kernel
theorem dX5_whatWas_105 : decode cX5_whatWas 105 = .ok (.aload_n 0, 1) := by decide +kernel
theorem dX5_whatWas_106 : decode cX5_whatWas 106 = .ok (.iload_n 1, 1) := by decide +kernel
theorem dX5_whatWas_107 : decode cX5_whatWas 107 = .ok (.invokevirtual 304, 3) := by decide +kernel
theorem dX5_whatWas_110 : decode cX5_whatWas 110 = .ok (.ifCond .eq 10, 3) := by decide +kernel
theorem dX5_whatWas_113 : decode cX5_whatWas 113 = .ok (.iconst 1, 1) := by decide +kernel
theorem dX5_whatWas_114 : decode cX5_whatWas 114 = .ok (.iload 5, 2) := by decide +kernel
theorem dX5_whatWas_116 : decode cX5_whatWas 116 = .ok (.ishl, 1) := by decide +kernel
theorem dX5_whatWas_117 : decode cX5_whatWas 117 = .ok (.goto 4, 3) := by decide +kernel
theorem dX5_whatWas_120 : decode cX5_whatWas 120 = .ok (.iconst 0, 1) := by decide +kernel
theorem dX5_whatWas_121 : decode cX5_whatWas 121 = .ok (.ior, 1) := by decide +kernel
theorem dX5_whatWas_122 : decode cX5_whatWas 122 = .ok (.istore 4, 2) := by decide +kernel
theorem dX5_whatWas_124 : decode cX5_whatWas 124 = .ok (.iinc 5 1, 3) := by decide +kernel
theorem dX5_whatWas_127 : decode cX5_whatWas 127 = .ok (.goto (-83), 3) := by decide +kernel
theorem dX5_whatWas_130 : decode cX5_whatWas 130 = .ok (.iload 4, 2) := by decide +kernel
theorem dX5_whatWas_132 : decode cX5_whatWas 132 = .ok (.ireturn, 1) := by decide +kernel
abbrev A5_whatWas (G : GG) (Q : Int32 → MM → Prop) := AW G E0 (MZ G (qI Q)) (WY yX5_whatWas cX5_whatWas 6 (some .int)) RX5 cX5_whatWas 6 (some .int) ({ frames := 5, cells := 0, slots := 0, locals := 112 } : Room) 0 0
def D5_whatWas_c121 (K44 : Int32 → Int32 → Int32 → Int32 → MM → Prop) (Q : Int32 → MM → Prop) (x1 : Int32) (x2 : Int32) (x5 : Int32) (s0 : Int32) (s1 : Int32) (M : MM) : Prop := (fun v14 : Int32 => (fun v15 : Int32 => K44 x1 x2 v14 v15 M) (x5 + (1 : Int32))) (s1 ||| s0)
def D5_whatWas_c102 (K44 : Int32 → Int32 → Int32 → Int32 → MM → Prop) (Q : Int32 → MM → Prop) (x1 : Int32) (x2 : Int32) (x4 : Int32) (x5 : Int32) (s0 : Int32) (s1 : Int32) (s2 : Nat) (M : MM) : Prop := ib s2 s1 ∧ (fun M11 : MM => D5_isRow x1 M11 (fun (r12 : Int32) (M13 : MM) => ((r12 = 0 → D5_whatWas_c121 K44 Q x1 x2 x5 (0 : Int32) x4 M13) ∧ (¬ r12 = 0 → D5_whatWas_c121 K44 Q x1 x2 x5 ((1 : Int32) <<< (x5 &&& 31)) x4 M13)))) (up M s2 (ix s1) s0)
def D5_whatWas_c80 (K44 : Int32 → Int32 → Int32 → Int32 → MM → Prop) (Q : Int32 → MM → Prop) (x1 : Int32) (x2 : Int32) (x4 : Int32) (x5 : Int32) (s0 : Int32) (s1 : Int32) (s2 : Nat) (M : MM) : Prop := ib s2 s1 ∧ (fun M10 : MM => ((x2 ≠ (1 : Int32) → ib 64 x1 ∧ D5_whatWas_c102 K44 Q x1 x2 x4 x5 (M10 64 (ix x1)) x1 64 M10) ∧ (x2 = (1 : Int32) → D5_whatWas_c102 K44 Q x1 x2 x4 x5 x5 x1 64 M10))) (up M s2 (ix s1) s0)
def D5_whatWas_c57 (K44 : Int32 → Int32 → Int32 → Int32 → MM → Prop) (Q : Int32 → MM → Prop) (x1 : Int32) (x2 : Int32) (x4 : Int32) (x5 : Int32) (s0 : Int32) (s1 : Int32) (M : MM) : Prop := ((s0 ≤ s1 → Q x4 M) ∧ (¬ s0 ≤ s1 → ((x2 ≠ 0 → ib 63 x1 ∧ D5_whatWas_c80 K44 Q x1 x2 x4 x5 (M 63 (ix x1)) x1 63 M) ∧ (x2 = 0 → D5_whatWas_c80 K44 Q x1 x2 x4 x5 x5 x1 63 M))))
def D5_whatWas_c44 (Q : Int32 → MM → Prop) : Nat → Int32 → Int32 → Int32 → Int32 → MM → Prop
  | 0, _, _, _, _, _ => False
  | n + 1, x1, x2, x4, x5, M => ((x2 ≠ 0 → D5_whatWas_c57 (D5_whatWas_c44 Q n) Q x1 x2 x4 x5 (10 : Int32) x5 M) ∧ (x2 = 0 → D5_whatWas_c57 (D5_whatWas_c44 Q n) Q x1 x2 x4 x5 (6 : Int32) x5 M))
def D5_whatWas_c18 (Q : Int32 → MM → Prop) (x1 : Int32) (x2 : Int32) (s0 : Int32) (M : MM) : Prop := D5_wrongBit s0 x2 (1 : Int32) M (fun (r4 : Int32) (M5 : MM) => ((0 ≤ r4 → D5_think M5 (fun (M7 : MM) => D5_whatWas_c44 Q FU x1 x2 (0 : Int32) (0 : Int32) M7)) ∧ (¬ 0 ≤ r4 → D5_refuse r4 M5 (fun (r8 : Int32) (M9 : MM) => Q r8 M9))))
def D5_whatWas (x1 : Int32) (x2 : Int32) (M : MM) (Q : Int32 → MM → Prop) : Prop := (fun M1 : MM => D5_isWork x1 M1 (fun (r2 : Int32) (M3 : MM) => ((r2 = 0 → D5_whatWas_c18 Q x1 x2 (-1 : Int32) M3) ∧ (¬ r2 = 0 → D5_whatWas_c18 Q x1 x2 (0 : Int32) M3)))) (up M 62 9 (0 : Int32))
set_option maxHeartbeats 4000000 in
set_option maxRecDepth 100000 in
theorem s5_whatWas_c121 {G : GG} {K44 : Int32 → Int32 → Int32 → Int32 → MM → Prop} {Q : Int32 → MM → Prop} (hK44 : ∀ (x1 : Int32) (x2 : Int32) (x4 : Int32) (x5 : Int32) (M : MM), K44 x1 x2 x4 x5 M → A5_whatWas G Q 44 [(0, .ref (gA G 62)), (1, .int x1), (2, .int x2), (4, .int x4), (5, .int x5)] [] M) : ∀ (x1 : Int32) (x2 : Int32) (x5 : Int32) (s0 : Int32) (s1 : Int32) (M : MM), D5_whatWas_c121 K44 Q x1 x2 x5 s0 s1 M → A5_whatWas G Q 121 [(0, .ref (gA G 62)), (1, .int x1), (2, .int x2), (5, .int x5)] [.int s0, .int s1] M := by
  intro x1 x2 x5 s0 s1 M h
  unfold D5_whatWas_c121 at h
  refine a_ior dX5_whatWas_121 ?_
  refine a_istore (i := 4) (L' := [(4, .int _), (0, .ref _), (1, .int _), (2, .int _), (5, .int _)]) dX5_whatWas_122 (by decide) rfl ?_
  refine a_iinc (L' := [(5, .int _), (4, .int _), (0, .ref _), (1, .int _), (2, .int _)]) dX5_whatWas_124 4 rfl (show _ + Int32.ofInt (1 : Int) = _ + (1 : Int32) from rfl) (by decide) rfl ?_
  refine a_goto (tgt := 44) dX5_whatWas_127 (by decide) ?_
  refine a_sub [2, 3, 4, 1, 0] rfl ?_
  exact hK44 _ _ _ _ _ h
set_option maxHeartbeats 4000000 in
set_option maxRecDepth 100000 in
theorem s5_whatWas_c102 {G : GG} {K44 : Int32 → Int32 → Int32 → Int32 → MM → Prop} {Q : Int32 → MM → Prop} (hK44 : ∀ (x1 : Int32) (x2 : Int32) (x4 : Int32) (x5 : Int32) (M : MM), K44 x1 x2 x4 x5 M → A5_whatWas G Q 44 [(0, .ref (gA G 62)), (1, .int x1), (2, .int x2), (4, .int x4), (5, .int x5)] [] M) : ∀ (x1 : Int32) (x2 : Int32) (x4 : Int32) (x5 : Int32) (s0 : Int32) (s1 : Int32) (s2 : Nat) (M : MM), D5_whatWas_c102 K44 Q x1 x2 x4 x5 s0 s1 s2 M → A5_whatWas G Q 102 [(0, .ref (gA G 62)), (1, .int x1), (2, .int x2), (4, .int x4), (5, .int x5)] [.int s0, .int s1, .ref (gA G s2)] M := by
  intro x1 x2 x4 x5 s0 s1 s2 M h
  unfold D5_whatWas_c102 at h
  refine a_iast dX5_whatWas_102 h.1 ?_
  have h := h.2
  refine a_iload dX5_whatWas_103 3 rfl ?_
  refine a_aload_n dX5_whatWas_105 0 rfl ?_
  refine a_iload_n dX5_whatWas_106 1 rfl ?_
  refine a_callVi (n := 1) [.int _] (C := RX5) (ci := 3) (qc := (RX5, TX5, 40)) (fsF := fl3 G _) ob_62.1 (fun _ => en3 ob_62.2) rfl rfl dX5_whatWas_107 (s5_isRow h) (gV tbc kM_RX5_304_X5_isRow kI_X5_isRow kS_X5_isRow kN_RX5 kC_X5_isRow) rfl (by decide +kernel) ⟨Nat.le_of_ble_eq_true rfl, Nat.le_of_ble_eq_true rfl⟩ rfl rfl (Nat.le_of_ble_eq_true rfl) ⟨Nat.le_refl 0, Nat.le_refl 0⟩ (fun r M h => ?_)
  refine a_if_eq (tgt := 120) dX5_whatWas_110 (by decide) (fun c => ?_) (fun c => ?_)
  · have h := h.1 c
    refine a_iconst (v := 0) dX5_whatWas_120 (by decide) ?_
    refine a_sub [0, 1, 2, 4] rfl ?_
    exact s5_whatWas_c121 hK44 _ _ _ _ _ _ h
  · have h := h.2 c
    refine a_iconst (v := 1) dX5_whatWas_113 (by decide) ?_
    refine a_iload dX5_whatWas_114 4 rfl ?_
    refine a_ishl dX5_whatWas_116 ?_
    refine a_goto (tgt := 121) dX5_whatWas_117 (by decide) ?_
    refine a_sub [0, 1, 2, 4] rfl ?_
    exact s5_whatWas_c121 hK44 _ _ _ _ _ _ h
set_option maxHeartbeats 4000000 in
set_option maxRecDepth 100000 in
theorem s5_whatWas_c80 {G : GG} {K44 : Int32 → Int32 → Int32 → Int32 → MM → Prop} {Q : Int32 → MM → Prop} (hK44 : ∀ (x1 : Int32) (x2 : Int32) (x4 : Int32) (x5 : Int32) (M : MM), K44 x1 x2 x4 x5 M → A5_whatWas G Q 44 [(0, .ref (gA G 62)), (1, .int x1), (2, .int x2), (4, .int x4), (5, .int x5)] [] M) : ∀ (x1 : Int32) (x2 : Int32) (x4 : Int32) (x5 : Int32) (s0 : Int32) (s1 : Int32) (s2 : Nat) (M : MM), D5_whatWas_c80 K44 Q x1 x2 x4 x5 s0 s1 s2 M → A5_whatWas G Q 80 [(0, .ref (gA G 62)), (1, .int x1), (2, .int x2), (4, .int x4), (5, .int x5)] [.int s0, .int s1, .ref (gA G s2)] M := by
  intro x1 x2 x4 x5 s0 s1 s2 M h
  unfold D5_whatWas_c80 at h
  refine a_iast dX5_whatWas_80 h.1 ?_
  have h := h.2
  refine a_aload_n dX5_whatWas_81 0 rfl ?_
  refine a_get3 dX5_whatWas_82 2 (by decide) (tbc _ kF_RX5_13) (fun w h => tbc _ (uW3 w h)) rfl ob_62 rfl ?_
  refine a_iload_n dX5_whatWas_85 1 rfl ?_
  refine a_iload_n dX5_whatWas_86 2 rfl ?_
  refine a_iconst (v := 1) dX5_whatWas_87 (by decide) ?_
  refine a_icmp_ne (tgt := 96) dX5_whatWas_88 (by decide) (fun c => ?_) (fun c => ?_)
  · have h := h.1 c
    refine a_aload_n dX5_whatWas_96 0 rfl ?_
    refine a_get3 dX5_whatWas_97 2 (by decide) (tbc _ kF_RX5_13) (fun w h => tbc _ (uW3 w h)) rfl ob_62 rfl ?_
    refine a_iload_n dX5_whatWas_100 1 rfl ?_
    refine a_iald dX5_whatWas_101 h.1 ?_
    have h := h.2
    refine a_sub [0, 1, 2, 3, 4] rfl ?_
    exact s5_whatWas_c102 hK44 _ _ _ _ _ _ _ _ h
  · have h := h.2 c
    refine a_iload dX5_whatWas_91 4 rfl ?_
    refine a_goto (tgt := 102) dX5_whatWas_93 (by decide) ?_
    refine a_sub [0, 1, 2, 3, 4] rfl ?_
    exact s5_whatWas_c102 hK44 _ _ _ _ _ _ _ _ h
set_option maxHeartbeats 4000000 in
set_option maxRecDepth 100000 in
theorem s5_whatWas_c57 {G : GG} {K44 : Int32 → Int32 → Int32 → Int32 → MM → Prop} {Q : Int32 → MM → Prop} (hK44 : ∀ (x1 : Int32) (x2 : Int32) (x4 : Int32) (x5 : Int32) (M : MM), K44 x1 x2 x4 x5 M → A5_whatWas G Q 44 [(0, .ref (gA G 62)), (1, .int x1), (2, .int x2), (4, .int x4), (5, .int x5)] [] M) : ∀ (x1 : Int32) (x2 : Int32) (x4 : Int32) (x5 : Int32) (s0 : Int32) (s1 : Int32) (M : MM), D5_whatWas_c57 K44 Q x1 x2 x4 x5 s0 s1 M → A5_whatWas G Q 57 [(0, .ref (gA G 62)), (1, .int x1), (2, .int x2), (4, .int x4), (5, .int x5)] [.int s0, .int s1] M := by
  intro x1 x2 x4 x5 s0 s1 M h
  unfold D5_whatWas_c57 at h
  refine a_icmp_ge (tgt := 130) dX5_whatWas_57 (by decide) (fun c => ?_) (fun c => ?_)
  · have h := h.1 c
    refine a_iload dX5_whatWas_130 3 rfl ?_
    exact a_iret dX5_whatWas_132 ⟨_, rfl, h⟩
  · have h := h.2 c
    refine a_aload_n dX5_whatWas_60 0 rfl ?_
    refine a_get3 dX5_whatWas_61 1 (by decide) (tbc _ kF_RX5_7) (fun w h => tbc _ (uW3 w h)) rfl ob_62 rfl ?_
    refine a_iload_n dX5_whatWas_64 1 rfl ?_
    refine a_iload_n dX5_whatWas_65 2 rfl ?_
    refine a_if_ne (tgt := 74) dX5_whatWas_66 (by decide) (fun c => ?_) (fun c => ?_)
    · have h := h.1 c
      refine a_aload_n dX5_whatWas_74 0 rfl ?_
      refine a_get3 dX5_whatWas_75 1 (by decide) (tbc _ kF_RX5_7) (fun w h => tbc _ (uW3 w h)) rfl ob_62 rfl ?_
      refine a_iload_n dX5_whatWas_78 1 rfl ?_
      refine a_iald dX5_whatWas_79 h.1 ?_
      have h := h.2
      refine a_sub [0, 1, 2, 3, 4] rfl ?_
      exact s5_whatWas_c80 hK44 _ _ _ _ _ _ _ _ h
    · have h := h.2 c
      refine a_iload dX5_whatWas_69 4 rfl ?_
      refine a_goto (tgt := 80) dX5_whatWas_71 (by decide) ?_
      refine a_sub [0, 1, 2, 3, 4] rfl ?_
      exact s5_whatWas_c80 hK44 _ _ _ _ _ _ _ _ h
set_option maxHeartbeats 4000000 in
set_option maxRecDepth 100000 in
theorem s5_whatWas_c44 {G : GG} {Q : Int32 → MM → Prop} : ∀ (n : Nat) (x1 : Int32) (x2 : Int32) (x4 : Int32) (x5 : Int32) (M : MM), D5_whatWas_c44 Q n x1 x2 x4 x5 M → A5_whatWas G Q 44 [(0, .ref (gA G 62)), (1, .int x1), (2, .int x2), (4, .int x4), (5, .int x5)] [] M := by
  intro n
  induction n with
  | zero => intro x1 x2 x4 x5 M h; exact h.elim
  | succ n ih =>
    intro x1 x2 x4 x5 M h
    unfold D5_whatWas_c44 at h
    refine a_iload dX5_whatWas_44 4 rfl ?_
    refine a_iload_n dX5_whatWas_46 2 rfl ?_
    refine a_if_ne (tgt := 55) dX5_whatWas_47 (by decide) (fun c => ?_) (fun c => ?_)
    · have h := h.1 c
      refine a_bipush (v := 10) dX5_whatWas_55 (by decide) ?_
      refine a_sub [0, 1, 2, 3, 4] rfl ?_
      exact s5_whatWas_c57 ih _ _ _ _ _ _ _ h
    · have h := h.2 c
      refine a_bipush (v := 6) dX5_whatWas_50 (by decide) ?_
      refine a_goto (tgt := 57) dX5_whatWas_52 (by decide) ?_
      refine a_sub [0, 1, 2, 3, 4] rfl ?_
      exact s5_whatWas_c57 ih _ _ _ _ _ _ _ h
set_option maxHeartbeats 4000000 in
set_option maxRecDepth 100000 in
theorem s5_whatWas_c18 {G : GG} {Q : Int32 → MM → Prop} : ∀ (x1 : Int32) (x2 : Int32) (s0 : Int32) (M : MM), D5_whatWas_c18 Q x1 x2 s0 M → A5_whatWas G Q 18 [(0, .ref (gA G 62)), (1, .int x1), (2, .int x2)] [.int s0] M := by
  intro x1 x2 s0 M h
  unfold D5_whatWas_c18 at h
  refine a_iload_n dX5_whatWas_18 2 rfl ?_
  refine a_iconst (v := 1) dX5_whatWas_19 (by decide) ?_
  refine a_callSi (n := 3) [.int _, .int _, .int _] dX5_whatWas_20 (s5_wrongBit h) (gS tbc kM_RX5_260_X5_wrongBit kT_X5_wrongBit kN_RX5 kC_X5_wrongBit) rfl (by decide +kernel) ⟨Nat.le_of_ble_eq_true rfl, Nat.le_of_ble_eq_true rfl⟩ rfl rfl (Nat.le_of_ble_eq_true rfl) ⟨Nat.le_refl 0, Nat.le_refl 0⟩ (fun r M h => ?_)
  refine a_istore_n (i := 3) (L' := [(3, .int _), (0, .ref _), (1, .int _), (2, .int _)]) dX5_whatWas_23 rfl (by decide) rfl ?_
  refine a_iload_n dX5_whatWas_24 0 rfl ?_
  refine a_if_ge (tgt := 34) dX5_whatWas_25 (by decide) (fun c => ?_) (fun c => ?_)
  · have h := h.1 c
    refine a_iconst (v := 0) dX5_whatWas_34 (by decide) ?_
    refine a_istore (i := 4) (L' := [(4, .int _), (3, .int _), (0, .ref _), (1, .int _), (2, .int _)]) dX5_whatWas_35 (by decide) rfl ?_
    refine a_aload_n dX5_whatWas_37 2 rfl ?_
    refine a_callVv (n := 0) [] (C := RX5) (ci := 3) (qc := (RX5, TX5, 40)) (fsF := fl3 G _) ob_62.1 (fun _ => en3 ob_62.2) rfl rfl dX5_whatWas_38 (s5_think h) (gV tbc kM_RX5_209_X5_think kI_X5_think kS_X5_think kN_RX5 kC_X5_think) rfl (by decide +kernel) ⟨Nat.le_of_ble_eq_true rfl, Nat.le_of_ble_eq_true rfl⟩ rfl rfl (Nat.le_of_ble_eq_true rfl) ⟨Nat.le_refl 0, Nat.le_refl 0⟩ (fun M h => ?_)
    refine a_iconst (v := 0) dX5_whatWas_41 (by decide) ?_
    refine a_istore (i := 5) (L' := [(5, .int _), (4, .int _), (3, .int _), (0, .ref _), (1, .int _), (2, .int _)]) dX5_whatWas_42 (by decide) rfl ?_
    refine a_sub [3, 4, 5, 1, 0] rfl ?_
    exact s5_whatWas_c44 _ _ _ _ _ _ h
  · have h := h.2 c
    refine a_aload_n dX5_whatWas_28 1 rfl ?_
    refine a_iload_n dX5_whatWas_29 0 rfl ?_
    refine a_callVi (n := 1) [.int _] (C := RX5) (ci := 3) (qc := (RX5, TX5, 40)) (fsF := fl3 G _) ob_62.1 (fun _ => en3 ob_62.2) rfl rfl dX5_whatWas_30 (s5_refuse h) (gV tbc kM_RX5_149_X5_refuse kI_X5_refuse kS_X5_refuse kN_RX5 kC_X5_refuse) rfl (by decide +kernel) ⟨Nat.le_of_ble_eq_true rfl, Nat.le_of_ble_eq_true rfl⟩ rfl rfl (Nat.le_of_ble_eq_true rfl) ⟨Nat.le_refl 0, Nat.le_refl 0⟩ (fun r M h => ?_)
    exact a_iret dX5_whatWas_33 ⟨_, rfl, h⟩
set_option maxHeartbeats 4000000 in
set_option maxRecDepth 100000 in
theorem s5_whatWas {G : GG} {x1 : Int32} {x2 : Int32} {M : MM} {Q : Int32 → MM → Prop} (h : D5_whatWas x1 x2 M Q) : CM G yX5_whatWas (WY yX5_whatWas cX5_whatWas 6 (some .int)) 5 112 [.ref (gA G 62), .int x1, .int x2] M (qI Q) := by
  refine CM.of (cc := cX5_whatWas) (nL := 6) (ret := (some .int)) (own := RX5) (by decide +kernel) rfl rfl (Nat.le_of_ble_eq_true rfl) ?_
  show A5_whatWas G Q 0 [(0, .ref (gA G 62)), (1, .int x1), (2, .int x2)] [] M
  unfold D5_whatWas at h
  refine a_aload_n dX5_whatWas_0 0 rfl ?_
  refine a_iconst (v := 0) dX5_whatWas_1 (by decide) ?_
  refine a_put3 dX5_whatWas_2 9 (by decide) (tbc _ kF_RX5_73) (fun w h => tbc _ (uW3 w h)) rfl rfl rfl rfl ob_62 fs3_9 ?_
  refine a_aload_n dX5_whatWas_5 0 rfl ?_
  refine a_iload_n dX5_whatWas_6 1 rfl ?_
  refine a_callVi (n := 1) [.int _] (C := RX5) (ci := 3) (qc := (RX5, TX5, 40)) (fsF := fl3 G _) ob_62.1 (fun _ => en3 ob_62.2) rfl rfl dX5_whatWas_7 (s5_isWork h) (gV tbc kM_RX5_182_X5_isWork kI_X5_isWork kS_X5_isWork kN_RX5 kC_X5_isWork) rfl (by decide +kernel) ⟨Nat.le_of_ble_eq_true rfl, Nat.le_of_ble_eq_true rfl⟩ rfl rfl (Nat.le_of_ble_eq_true rfl) ⟨Nat.le_refl 0, Nat.le_refl 0⟩ (fun r M h => ?_)
  refine a_if_eq (tgt := 17) dX5_whatWas_10 (by decide) (fun c => ?_) (fun c => ?_)
  · have h := h.1 c
    refine a_iconst (v := -1) dX5_whatWas_17 (by decide) ?_
    refine a_sub [0, 1, 2] rfl ?_
    exact s5_whatWas_c18 _ _ _ _ h
  · have h := h.2 c
    refine a_iconst (v := 0) dX5_whatWas_13 (by decide) ?_
    refine a_goto (tgt := 18) dX5_whatWas_14 (by decide) ?_
    refine a_sub [0, 1, 2] rfl ?_
    exact s5_whatWas_c18 _ _ _ _ h

/-! X5_work -/
theorem dX5_work_0 : decode cX5_work 0 = .ok (.aload_n 0, 1) := by decide +kernel
theorem dX5_work_1 : decode cX5_work 1 = .ok (.iconst 0, 1) := by decide +kernel
theorem dX5_work_2 : decode cX5_work 2 = .ok (.putfield 73, 3) := by decide +kernel
theorem dX5_work_5 : decode cX5_work 5 = .ok (.iload_n 1, 1) := by decide +kernel
theorem dX5_work_6 : decode cX5_work 6 = .ok (.i2l, 1) := by decide +kernel
theorem dX5_work_7 : decode cX5_work 7 = .ok (.lconst 0, 1) := by decide +kernel
theorem dX5_work_8 : decode cX5_work 8 = .ok (.ldc2_w 242, 3) := by decide +kernel
theorem dX5_work_11 : decode cX5_work 11 = .ok (.invokestatic 80, 3) := by decide +kernel
theorem dX5_work_14 : decode cX5_work 14 = .ok (.ifCond .eq 13, 3) := by decide +kernel
theorem dX5_work_17 : decode cX5_work 17 = .ok (.iload_n 2, 1) := by decide +kernel
theorem dX5_work_18 : decode cX5_work 18 = .ok (.iconst 0, 1) := by decide +kernel
theorem dX5_work_19 : decode cX5_work 19 = .ok (.bipush 9, 2) := by decide +kernel
theorem dX5_work_21 : decode cX5_work 21 = .ok (.invokestatic 244, 3) := by decide +kernel
theorem dX5_work_24 : decode cX5_work 24 = .ok (.goto 5, 3) := by decide +kernel
theorem dX5_work_27 : decode cX5_work 27 = .ok (.bipush (-2), 2) := by decide +kernel
theorem dX5_work_29 : decode cX5_work 29 = .ok (.istore 4, 2) := by decide +kernel
theorem dX5_work_31 : decode cX5_work 31 = .ok (.iload 4, 2) := by decide +kernel
theorem dX5_work_33 : decode cX5_work 33 = .ok (.ifCond .ne 17, 3) := by decide +kernel
theorem dX5_work_36 : decode cX5_work 36 = .ok (.aload_n 0, 1) := by decide +kernel
theorem dX5_work_37 : decode cX5_work 37 = .ok (.getfield 77, 3) := by decide +kernel
theorem dX5_work_40 : decode cX5_work 40 = .ok (.bipush 8, 2) := by decide +kernel
theorem dX5_work_42 : decode cX5_work 42 = .ok (.if_icmp .ne 8, 3) := by decide +kernel
theorem dX5_work_45 : decode cX5_work 45 = .ok (.bipush (-6), 2) := by decide +kernel
theorem dX5_work_47 : decode cX5_work 47 = .ok (.goto 5, 3) := by decide +kernel
theorem dX5_work_50 : decode cX5_work 50 = .ok (.iload 4, 2) := by decide +kernel
theorem dX5_work_52 : decode cX5_work 52 = .ok (.istore 4, 2) := by decide +kernel
theorem dX5_work_54 : decode cX5_work 54 = .ok (.iload 4, 2) := by decide +kernel
theorem dX5_work_56 : decode cX5_work 56 = .ok (.ifCond .ne 14, 3) := by decide +kernel
theorem dX5_work_59 : decode cX5_work 59 = .ok (.iload_n 3, 1) := by decide +kernel
theorem dX5_work_60 : decode cX5_work 60 = .ok (.invokestatic 185, 3) := by decide +kernel
theorem dX5_work_63 : decode cX5_work 63 = .ok (.ifCond .ne 7, 3) := by decide +kernel
theorem dX5_work_66 : decode cX5_work 66 = .ok (.iconst (-1), 1) := by decide +kernel
theorem dX5_work_67 : decode cX5_work 67 = .ok (.goto 5, 3) := by decide +kernel
theorem dX5_work_70 : decode cX5_work 70 = .ok (.iload 4, 2) := by decide +kernel
theorem dX5_work_72 : decode cX5_work 72 = .ok (.istore 4, 2) := by decide +kernel
theorem dX5_work_74 : decode cX5_work 74 = .ok (.iload 4, 2) := by decide +kernel
theorem dX5_work_76 : decode cX5_work 76 = .ok (.ifCond .ne 16, 3) := by decide +kernel
theorem dX5_work_79 : decode cX5_work 79 = .ok (.aload_n 0, 1) := by decide +kernel
theorem dX5_work_80 : decode cX5_work 80 = .ok (.iload_n 3, 1) := by decide +kernel
theorem dX5_work_81 : decode cX5_work 81 = .ok (.invokevirtual 188, 3) := by decide +kernel
theorem dX5_work_84 : decode cX5_work 84 = .ok (.ifCond .lt 8, 3) := by decide +kernel
theorem dX5_work_87 : decode cX5_work 87 = .ok (.bipush (-3), 2) := by decide +kernel
theorem dX5_work_89 : decode cX5_work 89 = .ok (.goto 5, 3) := by decide +kernel
theorem dX5_work_92 : decode cX5_work 92 = .ok (.iload 4, 2) := by decide +kernel
theorem dX5_work_94 : decode cX5_work 94 = .ok (.istore 4, 2) := by decide +kernel
theorem dX5_work_96 : decode cX5_work 96 = .ok (.iload 4, 2) := by decide +kernel
theorem dX5_work_98 : decode cX5_work 98 = .ok (.ifCond .ge 10, 3) := by decide +kernel
theorem dX5_work_101 : decode cX5_work 101 = .ok (.aload_n 0, 1) := by decide +kernel
theorem dX5_work_102 : decode cX5_work 102 = .ok (.iload 4, 2) := by decide +kernel
theorem dX5_work_104 : decode cX5_work 104 = .ok (.invokevirtual 149, 3) := by decide +kernel
theorem dX5_work_107 : decode cX5_work 107 = .ok (.ireturn, 1) := by decide +kernel
theorem dX5_work_108 : decode cX5_work 108 = .ok (.aload_n 0, 1) := by decide +kernel
theorem dX5_work_109 : decode cX5_work 109 = .ok (.iload_n 1, 1) := by decide +kernel
theorem dX5_work_110 : decode cX5_work 110 = .ok (.iload_n 2, 1) := by decide +kernel
theorem dX5_work_111 : decode cX5_work 111 = .ok (.iload_n 3, 1) := by decide +kernel
theorem dX5_work_112 : decode cX5_work 112 = .ok (.invokevirtual 191, 3) := by decide +kernel
theorem dX5_work_115 : decode cX5_work 115 = .ok (.aload_n 0, 1) := by decide +kernel
theorem dX5_work_116 : decode cX5_work 116 = .ok (.iconst 0, 1) := by decide +kernel
theorem dX5_work_117 : decode cX5_work 117 = .ok (.putfield 218, 3) := by decide +kernel
theorem dX5_work_120 : decode cX5_work 120 = .ok (.aload_n 0, 1) := by decide +kernel
theorem dX5_work_121 : decode cX5_work 121 = .ok (.getfield 77, 3) := by decide +kernel
theorem dX5_work_124 : decode cX5_work 124 = .ok (.iconst 1, 1) := by decide +kernel
theorem dX5_work_125 : decode cX5_work 125 = .ok (.isub, 1) := by decide +kernel
theorem dX5_work_126 : decode cX5_work 126 = .ok (.ireturn, 1) := by decide +kernel
abbrev A5_work (G : GG) (Q : Int32 → MM → Prop) := AW G E0 (MZ G (qI Q)) (WY yX5_work cX5_work 5 (some .int)) RX5 cX5_work 5 (some .int) ({ frames := 2, cells := 0, slots := 0, locals := 45 } : Room) 0 0
def D5_work_c94 (Q : Int32 → MM → Prop) (x1 : Int32) (x2 : Int32) (x3 : Int32) (s0 : Int32) (M : MM) : Prop := ((0 ≤ s0 → D5_workComes x1 x2 x3 M (fun (M11 : MM) => (fun M12 : MM => Q ((M12 62 0) - (1 : Int32)) M12) (up M11 62 32 (0 : Int32)))) ∧ (¬ 0 ≤ s0 → D5_refuse s0 M (fun (r13 : Int32) (M14 : MM) => Q r13 M14)))
def D5_work_c92 (Q : Int32 → MM → Prop) (x1 : Int32) (x2 : Int32) (x3 : Int32) (x4 : Int32) (M : MM) : Prop := D5_work_c94 Q x1 x2 x3 x4 M
def D5_work_c72 (Q : Int32 → MM → Prop) (x1 : Int32) (x2 : Int32) (x3 : Int32) (s0 : Int32) (M : MM) : Prop := ((s0 ≠ 0 → D5_work_c92 Q x1 x2 x3 s0 M) ∧ (s0 = 0 → D5_workAt x3 M (fun (r8 : Int32) (M9 : MM) => ((r8 < 0 → D5_work_c92 Q x1 x2 x3 s0 M9) ∧ (¬ r8 < 0 → D5_work_c94 Q x1 x2 x3 (-3 : Int32) M9)))))
def D5_work_c70 (Q : Int32 → MM → Prop) (x1 : Int32) (x2 : Int32) (x3 : Int32) (x4 : Int32) (M : MM) : Prop := D5_work_c72 Q x1 x2 x3 x4 M
def D5_work_c52 (Q : Int32 → MM → Prop) (x1 : Int32) (x2 : Int32) (x3 : Int32) (s0 : Int32) (M : MM) : Prop := ((s0 ≠ 0 → D5_work_c70 Q x1 x2 x3 s0 M) ∧ (s0 = 0 → D5_isCell x3 M (fun (r6 : Int32) (M7 : MM) => ((r6 ≠ 0 → D5_work_c70 Q x1 x2 x3 s0 M7) ∧ (r6 = 0 → D5_work_c72 Q x1 x2 x3 (-1 : Int32) M7)))))
def D5_work_c50 (Q : Int32 → MM → Prop) (x1 : Int32) (x2 : Int32) (x3 : Int32) (x4 : Int32) (M : MM) : Prop := D5_work_c52 Q x1 x2 x3 x4 M
def D5_work_c29 (Q : Int32 → MM → Prop) (x1 : Int32) (x2 : Int32) (x3 : Int32) (s0 : Int32) (M : MM) : Prop := ((s0 ≠ 0 → D5_work_c50 Q x1 x2 x3 s0 M) ∧ (s0 = 0 → (((M 62 0) ≠ (8 : Int32) → D5_work_c50 Q x1 x2 x3 s0 M) ∧ ((M 62 0) = (8 : Int32) → D5_work_c52 Q x1 x2 x3 (-6 : Int32) M))))
def D5_work (x1 : Int32) (x2 : Int32) (x3 : Int32) (M : MM) (Q : Int32 → MM → Prop) : Prop := (fun M1 : MM => D5_in x1.toInt64 (0 : Int64) (5 : Int64) M1 (fun (r2 : Int32) (M3 : MM) => ((r2 = 0 → D5_work_c29 Q x1 x2 x3 (-2 : Int32) M3) ∧ (¬ r2 = 0 → D5_wrongNumber x2 (0 : Int32) (9 : Int32) M3 (fun (r4 : Int32) (M5 : MM) => D5_work_c29 Q x1 x2 x3 r4 M5))))) (up M 62 9 (0 : Int32))
set_option maxHeartbeats 4000000 in
set_option maxRecDepth 100000 in
theorem s5_work_c94 {G : GG} {Q : Int32 → MM → Prop} : ∀ (x1 : Int32) (x2 : Int32) (x3 : Int32) (s0 : Int32) (M : MM), D5_work_c94 Q x1 x2 x3 s0 M → A5_work G Q 94 [(0, .ref (gA G 62)), (1, .int x1), (2, .int x2), (3, .int x3)] [.int s0] M := by
  intro x1 x2 x3 s0 M h
  unfold D5_work_c94 at h
  refine a_istore (i := 4) (L' := [(4, .int _), (0, .ref _), (1, .int _), (2, .int _), (3, .int _)]) dX5_work_94 (by decide) rfl ?_
  refine a_iload dX5_work_96 0 rfl ?_
  refine a_if_ge (tgt := 108) dX5_work_98 (by decide) (fun c => ?_) (fun c => ?_)
  · have h := h.1 c
    refine a_aload_n dX5_work_108 1 rfl ?_
    refine a_iload_n dX5_work_109 2 rfl ?_
    refine a_iload_n dX5_work_110 3 rfl ?_
    refine a_iload_n dX5_work_111 4 rfl ?_
    refine a_callVv (n := 3) [.int _, .int _, .int _] (C := RX5) (ci := 3) (qc := (RX5, TX5, 40)) (fsF := fl3 G _) ob_62.1 (fun _ => en3 ob_62.2) rfl rfl dX5_work_112 (s5_workComes h) (gV tbc kM_RX5_191_X5_workComes kI_X5_workComes kS_X5_workComes kN_RX5 kC_X5_workComes) rfl (by decide +kernel) ⟨Nat.le_of_ble_eq_true rfl, Nat.le_of_ble_eq_true rfl⟩ rfl rfl (Nat.le_of_ble_eq_true rfl) ⟨Nat.le_refl 0, Nat.le_refl 0⟩ (fun M h => ?_)
    refine a_aload_n dX5_work_115 1 rfl ?_
    refine a_iconst (v := 0) dX5_work_116 (by decide) ?_
    refine a_put3 dX5_work_117 32 (by decide) (tbc _ kF_RX5_218) (fun w h => tbc _ (uW3 w h)) rfl rfl rfl rfl ob_62 fs3_32 ?_
    refine a_aload_n dX5_work_120 1 rfl ?_
    refine a_get3 dX5_work_121 0 (by decide) (tbc _ kF_RX5_77) (fun w h => tbc _ (uW3 w h)) rfl ob_62 rfl ?_
    refine a_iconst (v := 1) dX5_work_124 (by decide) ?_
    refine a_isub dX5_work_125 ?_
    exact a_iret dX5_work_126 ⟨_, rfl, h⟩
  · have h := h.2 c
    refine a_aload_n dX5_work_101 1 rfl ?_
    refine a_iload dX5_work_102 0 rfl ?_
    refine a_callVi (n := 1) [.int _] (C := RX5) (ci := 3) (qc := (RX5, TX5, 40)) (fsF := fl3 G _) ob_62.1 (fun _ => en3 ob_62.2) rfl rfl dX5_work_104 (s5_refuse h) (gV tbc kM_RX5_149_X5_refuse kI_X5_refuse kS_X5_refuse kN_RX5 kC_X5_refuse) rfl (by decide +kernel) ⟨Nat.le_of_ble_eq_true rfl, Nat.le_of_ble_eq_true rfl⟩ rfl rfl (Nat.le_of_ble_eq_true rfl) ⟨Nat.le_refl 0, Nat.le_refl 0⟩ (fun r M h => ?_)
    exact a_iret dX5_work_107 ⟨_, rfl, h⟩
set_option maxHeartbeats 4000000 in
set_option maxRecDepth 100000 in
theorem s5_work_c92 {G : GG} {Q : Int32 → MM → Prop} : ∀ (x1 : Int32) (x2 : Int32) (x3 : Int32) (x4 : Int32) (M : MM), D5_work_c92 Q x1 x2 x3 x4 M → A5_work G Q 92 [(0, .ref (gA G 62)), (1, .int x1), (2, .int x2), (3, .int x3), (4, .int x4)] [] M := by
  intro x1 x2 x3 x4 M h
  unfold D5_work_c92 at h
  refine a_iload dX5_work_92 4 rfl ?_
  refine a_sub [0, 1, 2, 3] rfl ?_
  exact s5_work_c94 _ _ _ _ _ h
set_option maxHeartbeats 4000000 in
set_option maxRecDepth 100000 in
theorem s5_work_c72 {G : GG} {Q : Int32 → MM → Prop} : ∀ (x1 : Int32) (x2 : Int32) (x3 : Int32) (s0 : Int32) (M : MM), D5_work_c72 Q x1 x2 x3 s0 M → A5_work G Q 72 [(0, .ref (gA G 62)), (1, .int x1), (2, .int x2), (3, .int x3)] [.int s0] M := by
  intro x1 x2 x3 s0 M h
  unfold D5_work_c72 at h
  refine a_istore (i := 4) (L' := [(4, .int _), (0, .ref _), (1, .int _), (2, .int _), (3, .int _)]) dX5_work_72 (by decide) rfl ?_
  refine a_iload dX5_work_74 0 rfl ?_
  refine a_if_ne (tgt := 92) dX5_work_76 (by decide) (fun c => ?_) (fun c => ?_)
  · have h := h.1 c
    refine a_sub [1, 2, 3, 4, 0] rfl ?_
    exact s5_work_c92 _ _ _ _ _ h
  · have h := h.2 c
    refine a_aload_n dX5_work_79 1 rfl ?_
    refine a_iload_n dX5_work_80 4 rfl ?_
    refine a_callVi (n := 1) [.int _] (C := RX5) (ci := 3) (qc := (RX5, TX5, 40)) (fsF := fl3 G _) ob_62.1 (fun _ => en3 ob_62.2) rfl rfl dX5_work_81 (s5_workAt h) (gV tbc kM_RX5_188_X5_workAt kI_X5_workAt kS_X5_workAt kN_RX5 kC_X5_workAt) rfl (by decide +kernel) ⟨Nat.le_of_ble_eq_true rfl, Nat.le_of_ble_eq_true rfl⟩ rfl rfl (Nat.le_of_ble_eq_true rfl) ⟨Nat.le_refl 0, Nat.le_refl 0⟩ (fun r M h => ?_)
    refine a_if_lt (tgt := 92) dX5_work_84 (by decide) (fun c => ?_) (fun c => ?_)
    · have h := h.1 c
      refine a_sub [1, 2, 3, 4, 0] rfl ?_
      exact s5_work_c92 _ _ _ _ _ h
    · have h := h.2 c
      refine a_bipush (v := -3) dX5_work_87 (by decide) ?_
      refine a_goto (tgt := 94) dX5_work_89 (by decide) ?_
      refine a_sub [1, 2, 3, 4] rfl ?_
      exact s5_work_c94 _ _ _ _ _ h
set_option maxHeartbeats 4000000 in
set_option maxRecDepth 100000 in
theorem s5_work_c70 {G : GG} {Q : Int32 → MM → Prop} : ∀ (x1 : Int32) (x2 : Int32) (x3 : Int32) (x4 : Int32) (M : MM), D5_work_c70 Q x1 x2 x3 x4 M → A5_work G Q 70 [(0, .ref (gA G 62)), (1, .int x1), (2, .int x2), (3, .int x3), (4, .int x4)] [] M := by
  intro x1 x2 x3 x4 M h
  unfold D5_work_c70 at h
  refine a_iload dX5_work_70 4 rfl ?_
  refine a_sub [0, 1, 2, 3] rfl ?_
  exact s5_work_c72 _ _ _ _ _ h
set_option maxHeartbeats 4000000 in
set_option maxRecDepth 100000 in
theorem s5_work_c52 {G : GG} {Q : Int32 → MM → Prop} : ∀ (x1 : Int32) (x2 : Int32) (x3 : Int32) (s0 : Int32) (M : MM), D5_work_c52 Q x1 x2 x3 s0 M → A5_work G Q 52 [(0, .ref (gA G 62)), (1, .int x1), (2, .int x2), (3, .int x3)] [.int s0] M := by
  intro x1 x2 x3 s0 M h
  unfold D5_work_c52 at h
  refine a_istore (i := 4) (L' := [(4, .int _), (0, .ref _), (1, .int _), (2, .int _), (3, .int _)]) dX5_work_52 (by decide) rfl ?_
  refine a_iload dX5_work_54 0 rfl ?_
  refine a_if_ne (tgt := 70) dX5_work_56 (by decide) (fun c => ?_) (fun c => ?_)
  · have h := h.1 c
    refine a_sub [1, 2, 3, 4, 0] rfl ?_
    exact s5_work_c70 _ _ _ _ _ h
  · have h := h.2 c
    refine a_iload_n dX5_work_59 4 rfl ?_
    refine a_callSi (n := 1) [.int _] dX5_work_60 (s5_isCell h) (gS tbc kM_RX5_185_X5_isCell kT_X5_isCell kN_RX5 kC_X5_isCell) rfl (by decide +kernel) ⟨Nat.le_of_ble_eq_true rfl, Nat.le_of_ble_eq_true rfl⟩ rfl rfl (Nat.le_of_ble_eq_true rfl) ⟨Nat.le_refl 0, Nat.le_refl 0⟩ (fun r M h => ?_)
    refine a_if_ne (tgt := 70) dX5_work_63 (by decide) (fun c => ?_) (fun c => ?_)
    · have h := h.1 c
      refine a_sub [1, 2, 3, 4, 0] rfl ?_
      exact s5_work_c70 _ _ _ _ _ h
    · have h := h.2 c
      refine a_iconst (v := -1) dX5_work_66 (by decide) ?_
      refine a_goto (tgt := 72) dX5_work_67 (by decide) ?_
      refine a_sub [1, 2, 3, 4] rfl ?_
      exact s5_work_c72 _ _ _ _ _ h
set_option maxHeartbeats 4000000 in
set_option maxRecDepth 100000 in
theorem s5_work_c50 {G : GG} {Q : Int32 → MM → Prop} : ∀ (x1 : Int32) (x2 : Int32) (x3 : Int32) (x4 : Int32) (M : MM), D5_work_c50 Q x1 x2 x3 x4 M → A5_work G Q 50 [(0, .ref (gA G 62)), (1, .int x1), (2, .int x2), (3, .int x3), (4, .int x4)] [] M := by
  intro x1 x2 x3 x4 M h
  unfold D5_work_c50 at h
  refine a_iload dX5_work_50 4 rfl ?_
  refine a_sub [0, 1, 2, 3] rfl ?_
  exact s5_work_c52 _ _ _ _ _ h
set_option maxHeartbeats 4000000 in
set_option maxRecDepth 100000 in
theorem s5_work_c29 {G : GG} {Q : Int32 → MM → Prop} : ∀ (x1 : Int32) (x2 : Int32) (x3 : Int32) (s0 : Int32) (M : MM), D5_work_c29 Q x1 x2 x3 s0 M → A5_work G Q 29 [(0, .ref (gA G 62)), (1, .int x1), (2, .int x2), (3, .int x3)] [.int s0] M := by
  intro x1 x2 x3 s0 M h
  unfold D5_work_c29 at h
  refine a_istore (i := 4) (L' := [(4, .int _), (0, .ref _), (1, .int _), (2, .int _), (3, .int _)]) dX5_work_29 (by decide) rfl ?_
  refine a_iload dX5_work_31 0 rfl ?_
  refine a_if_ne (tgt := 50) dX5_work_33 (by decide) (fun c => ?_) (fun c => ?_)
  · have h := h.1 c
    refine a_sub [1, 2, 3, 4, 0] rfl ?_
    exact s5_work_c50 _ _ _ _ _ h
  · have h := h.2 c
    refine a_aload_n dX5_work_36 1 rfl ?_
    refine a_get3 dX5_work_37 0 (by decide) (tbc _ kF_RX5_77) (fun w h => tbc _ (uW3 w h)) rfl ob_62 rfl ?_
    refine a_bipush (v := 8) dX5_work_40 (by decide) ?_
    refine a_icmp_ne (tgt := 50) dX5_work_42 (by decide) (fun c => ?_) (fun c => ?_)
    · have h := h.1 c
      refine a_sub [1, 2, 3, 4, 0] rfl ?_
      exact s5_work_c50 _ _ _ _ _ h
    · have h := h.2 c
      refine a_bipush (v := -6) dX5_work_45 (by decide) ?_
      refine a_goto (tgt := 52) dX5_work_47 (by decide) ?_
      refine a_sub [1, 2, 3, 4] rfl ?_
      exact s5_work_c52 _ _ _ _ _ h
set_option maxHeartbeats 4000000 in
set_option maxRecDepth 100000 in
theorem s5_work {G : GG} {x1 : Int32} {x2 : Int32} {x3 : Int32} {M : MM} {Q : Int32 → MM → Prop} (h : D5_work x1 x2 x3 M Q) : CM G yX5_work (WY yX5_work cX5_work 5 (some .int)) 2 45 [.ref (gA G 62), .int x1, .int x2, .int x3] M (qI Q) := by
  refine CM.of (cc := cX5_work) (nL := 5) (ret := (some .int)) (own := RX5) (by decide +kernel) rfl rfl (Nat.le_of_ble_eq_true rfl) ?_
  show A5_work G Q 0 [(0, .ref (gA G 62)), (1, .int x1), (2, .int x2), (3, .int x3)] [] M
  unfold D5_work at h
  refine a_aload_n dX5_work_0 0 rfl ?_
  refine a_iconst (v := 0) dX5_work_1 (by decide) ?_
  refine a_put3 dX5_work_2 9 (by decide) (tbc _ kF_RX5_73) (fun w h => tbc _ (uW3 w h)) rfl rfl rfl rfl ob_62 fs3_9 ?_
  refine a_iload_n dX5_work_5 1 rfl ?_
  refine a_i2l dX5_work_6 ?_
  refine a_lconst (v := 0) dX5_work_7 (by decide) ?_
  refine a_ldc2 dX5_work_8 (tbc _ kL_RX5_242) ?_
  refine a_callSi (n := 3) [.long _, .long _, .long _] dX5_work_11 (s5_in h) (gS tbc kM_RX5_80_X5_in kT_X5_in kN_RX5 kC_X5_in) rfl (by decide +kernel) ⟨Nat.le_of_ble_eq_true rfl, Nat.le_of_ble_eq_true rfl⟩ rfl rfl (Nat.le_of_ble_eq_true rfl) ⟨Nat.le_refl 0, Nat.le_refl 0⟩ (fun r M h => ?_)
  refine a_if_eq (tgt := 27) dX5_work_14 (by decide) (fun c => ?_) (fun c => ?_)
  · have h := h.1 c
    refine a_bipush (v := -2) dX5_work_27 (by decide) ?_
    refine a_sub [0, 1, 2, 3] rfl ?_
    exact s5_work_c29 _ _ _ _ _ h
  · have h := h.2 c
    refine a_iload_n dX5_work_17 2 rfl ?_
    refine a_iconst (v := 0) dX5_work_18 (by decide) ?_
    refine a_bipush (v := 9) dX5_work_19 (by decide) ?_
    refine a_callSi (n := 3) [.int _, .int _, .int _] dX5_work_21 (s5_wrongNumber h) (gS tbc kM_RX5_244_X5_wrongNumber kT_X5_wrongNumber kN_RX5 kC_X5_wrongNumber) rfl (by decide +kernel) ⟨Nat.le_of_ble_eq_true rfl, Nat.le_of_ble_eq_true rfl⟩ rfl rfl (Nat.le_of_ble_eq_true rfl) ⟨Nat.le_refl 0, Nat.le_refl 0⟩ (fun r M h => ?_)
    refine a_goto (tgt := 29) dX5_work_24 (by decide) ?_
    refine a_sub [0, 1, 2, 3] rfl ?_
    exact s5_work_c29 _ _ _ _ _ h

/-! X5_workOf -/
theorem dX5_workOf_0 : decode cX5_workOf 0 = .ok (.aload_n 0, 1) := by decide +kernel
theorem dX5_workOf_1 : decode cX5_workOf 1 = .ok (.iconst 0, 1) := by decide +kernel
theorem dX5_workOf_2 : decode cX5_workOf 2 = .ok (.putfield 73, 3) := by decide +kernel
theorem dX5_workOf_5 : decode cX5_workOf 5 = .ok (.aload_n 0, 1) := by decide +kernel
theorem dX5_workOf_6 : decode cX5_workOf 6 = .ok (.iload_n 1, 1) := by decide +kernel
theorem dX5_workOf_7 : decode cX5_workOf 7 = .ok (.invokevirtual 182, 3) := by decide +kernel
theorem dX5_workOf_10 : decode cX5_workOf 10 = .ok (.ifCond .eq 15, 3) := by decide +kernel
theorem dX5_workOf_13 : decode cX5_workOf 13 = .ok (.iload_n 2, 1) := by decide +kernel
theorem dX5_workOf_14 : decode cX5_workOf 14 = .ok (.i2l, 1) := by decide +kernel
theorem dX5_workOf_15 : decode cX5_workOf 15 = .ok (.lconst 0, 1) := by decide +kernel
theorem dX5_workOf_16 : decode cX5_workOf 16 = .ok (.ldc2_w 240, 3) := by decide +kernel
theorem dX5_workOf_19 : decode cX5_workOf 19 = .ok (.invokestatic 80, 3) := by decide +kernel
theorem dX5_workOf_22 : decode cX5_workOf 22 = .ok (.ifCond .ne 22, 3) := by decide +kernel
theorem dX5_workOf_25 : decode cX5_workOf 25 = .ok (.aload_n 0, 1) := by decide +kernel
theorem dX5_workOf_26 : decode cX5_workOf 26 = .ok (.aload_n 0, 1) := by decide +kernel
theorem dX5_workOf_27 : decode cX5_workOf 27 = .ok (.iload_n 1, 1) := by decide +kernel
theorem dX5_workOf_28 : decode cX5_workOf 28 = .ok (.invokevirtual 182, 3) := by decide +kernel
theorem dX5_workOf_31 : decode cX5_workOf 31 = .ok (.ifCond .eq 8, 3) := by decide +kernel
theorem dX5_workOf_34 : decode cX5_workOf 34 = .ok (.bipush (-2), 2) := by decide +kernel
theorem dX5_workOf_36 : decode cX5_workOf 36 = .ok (.goto 4, 3) := by decide +kernel
theorem dX5_workOf_39 : decode cX5_workOf 39 = .ok (.iconst (-1), 1) := by decide +kernel
theorem dX5_workOf_40 : decode cX5_workOf 40 = .ok (.invokevirtual 149, 3) := by decide +kernel
theorem dX5_workOf_43 : decode cX5_workOf 43 = .ok (.ireturn, 1) := by decide +kernel
theorem dX5_workOf_44 : decode cX5_workOf 44 = .ok (.iload_n 2, 1) := by decide +kernel
theorem dX5_workOf_45 : decode cX5_workOf 45 = .ok (.tableswitch 102 0 7 #[47, 54, 61, 68, 75, 84, 90, 96], 47) := by decide +kernel
theorem dX5_workOf_92 : decode cX5_workOf 92 = .ok (.aload_n 0, 1) := by decide +kernel
theorem dX5_workOf_93 : decode cX5_workOf 93 = .ok (.getfield 7, 3) := by decide +kernel
theorem dX5_workOf_96 : decode cX5_workOf 96 = .ok (.iload_n 1, 1) := by decide +kernel
theorem dX5_workOf_97 : decode cX5_workOf 97 = .ok (.iaload, 1) := by decide +kernel
theorem dX5_workOf_98 : decode cX5_workOf 98 = .ok (.ireturn, 1) := by decide +kernel
theorem dX5_workOf_99 : decode cX5_workOf 99 = .ok (.aload_n 0, 1) := by decide +kernel
theorem dX5_workOf_100 : decode cX5_workOf 100 = .ok (.getfield 13, 3) := by decide +kernel
theorem dX5_workOf_103 : decode cX5_workOf 103 = .ok (.iload_n 1, 1) := by decide +kernel
theorem dX5_workOf_104 : decode cX5_workOf 104 = .ok (.iaload, 1) := by decide +kernel
theorem dX5_workOf_105 : decode cX5_workOf 105 = .ok (.ireturn, 1) := by decide +kernel
theorem dX5_workOf_106 : decode cX5_workOf 106 = .ok (.aload_n 0, 1) := by decide +kernel
theorem dX5_workOf_107 : decode cX5_workOf 107 = .ok (.getfield 16, 3) := by decide +kernel
theorem dX5_workOf_110 : decode cX5_workOf 110 = .ok (.iload_n 1, 1) := by decide +kernel
theorem dX5_workOf_111 : decode cX5_workOf 111 = .ok (.iaload, 1) := by decide +kernel
theorem dX5_workOf_112 : decode cX5_workOf 112 = .ok (.ireturn, 1) := by decide +kernel
theorem dX5_workOf_113 : decode cX5_workOf 113 = .ok (.aload_n 0, 1) := by decide +kernel
theorem dX5_workOf_114 : decode cX5_workOf 114 = .ok (.getfield 19, 3) := by decide +kernel
theorem dX5_workOf_117 : decode cX5_workOf 117 = .ok (.iload_n 1, 1) := by decide +kernel
theorem dX5_workOf_118 : decode cX5_workOf 118 = .ok (.iaload, 1) := by decide +kernel
theorem dX5_workOf_119 : decode cX5_workOf 119 = .ok (.ireturn, 1) := by decide +kernel
theorem dX5_workOf_120 : decode cX5_workOf 120 = .ok (.iconst 1, 1) := by decide +kernel
theorem dX5_workOf_121 : decode cX5_workOf 121 = .ok (.aload_n 0, 1) := by decide +kernel
theorem dX5_workOf_122 : decode cX5_workOf 122 = .ok (.getfield 22, 3) := by decide +kernel
theorem dX5_workOf_125 : decode cX5_workOf 125 = .ok (.iload_n 1, 1) := by decide +kernel
theorem dX5_workOf_126 : decode cX5_workOf 126 = .ok (.iaload, 1) := by decide +kernel
theorem dX5_workOf_127 : decode cX5_workOf 127 = .ok (.isub, 1) := by decide +kernel
theorem dX5_workOf_128 : decode cX5_workOf 128 = .ok (.ireturn, 1) := by decide +kernel
theorem dX5_workOf_129 : decode cX5_workOf 129 = .ok (.aload_n 0, 1) := by decide +kernel
theorem dX5_workOf_130 : decode cX5_workOf 130 = .ok (.iload_n 1, 1) := by decide +kernel
theorem dX5_workOf_131 : decode cX5_workOf 131 = .ok (.invokevirtual 143, 3) := by decide +kernel
theorem dX5_workOf_134 : decode cX5_workOf 134 = .ok (.ireturn, 1) := by decide +kernel
theorem dX5_workOf_135 : decode cX5_workOf 135 = .ok (.aload_n 0, 1) := by decide +kernel
theorem dX5_workOf_136 : decode cX5_workOf 136 = .ok (.iload_n 1, 1) := by decide +kernel
theorem dX5_workOf_137 : decode cX5_workOf 137 = .ok (.invokevirtual 140, 3) := by decide +kernel
theorem dX5_workOf_140 : decode cX5_workOf 140 = .ok (.ireturn, 1) := by decide +kernel
theorem dX5_workOf_141 : decode cX5_workOf 141 = .ok (.aload_n 0, 1) := by decide +kernel
theorem dX5_workOf_142 : decode cX5_workOf 142 = .ok (.iload_n 1, 1) := by decide +kernel
theorem dX5_workOf_143 : decode cX5_workOf 143 = .ok (.invokevirtual 134, 3) := by decide +kernel
theorem dX5_workOf_146 : decode cX5_workOf 146 = .ok (.ireturn, 1) := by decide +kernel
theorem dX5_workOf_147 : decode cX5_workOf 147 = .ok (.aload_n 0, 1) := by decide +kernel
theorem dX5_workOf_148 : decode cX5_workOf 148 = .ok (.iload_n 1, 1) := by decide +kernel
theorem dX5_workOf_149 : decode cX5_workOf 149 = .ok (.invokevirtual 100, 3) := by decide +kernel
theorem dX5_workOf_152 : decode cX5_workOf 152 = .ok (.ifCond .eq 7, 3) := by decide +kernel
theorem dX5_workOf_155 : decode cX5_workOf 155 = .ok (.iconst 1, 1) := by decide +kernel
theorem dX5_workOf_156 : decode cX5_workOf 156 = .ok (.goto 4, 3) := by decide +kernel
theorem dX5_workOf_159 : decode cX5_workOf 159 = .ok (.iconst 0, 1) := by decide +kernel
theorem dX5_workOf_160 : decode cX5_workOf 160 = .ok (.ireturn, 1) := by decide +kernel
abbrev A5_workOf (G : GG) (Q : Int32 → MM → Prop) := AW G E0 (MZ G (qI Q)) (WY yX5_workOf cX5_workOf 3 (some .int)) RX5 cX5_workOf 3 (some .int) ({ frames := 2, cells := 0, slots := 0, locals := 46 } : Room) 0 0
def D5_workOf_c40 (Q : Int32 → MM → Prop) (s0 : Int32) (M : MM) : Prop := D5_refuse s0 M (fun (r16 : Int32) (M17 : MM) => Q r16 M17)
def D5_workOf_c25 (Q : Int32 → MM → Prop) (x1 : Int32) (M : MM) : Prop := D5_isWork x1 M (fun (r14 : Int32) (M15 : MM) => ((r14 = 0 → D5_workOf_c40 Q (-1 : Int32) M15) ∧ (¬ r14 = 0 → D5_workOf_c40 Q (-2 : Int32) M15)))
def D5_workOf (x1 : Int32) (x2 : Int32) (M : MM) (Q : Int32 → MM → Prop) : Prop := (fun M1 : MM => D5_isWork x1 M1 (fun (r2 : Int32) (M3 : MM) => ((r2 = 0 → D5_workOf_c25 Q x1 M3) ∧ (¬ r2 = 0 → D5_in x2.toInt64 (0 : Int64) (8 : Int64) M3 (fun (r4 : Int32) (M5 : MM) => ((r4 ≠ 0 → ((x2 = 0 → ib 63 x1 ∧ Q (M5 63 (ix x1)) M5) ∧ (¬ x2 = 0 → ((x2 = 1 → ib 64 x1 ∧ Q (M5 64 (ix x1)) M5) ∧ (¬ x2 = 1 → ((x2 = 2 → ib 65 x1 ∧ Q (M5 65 (ix x1)) M5) ∧ (¬ x2 = 2 → ((x2 = 3 → ib 66 x1 ∧ Q (M5 66 (ix x1)) M5) ∧ (¬ x2 = 3 → ((x2 = 4 → ib 67 x1 ∧ Q ((1 : Int32) - (M5 67 (ix x1))) M5) ∧ (¬ x2 = 4 → ((x2 = 5 → D5_holdsOf x1 M5 (fun (r6 : Int32) (M7 : MM) => Q r6 M7)) ∧ (¬ x2 = 5 → ((x2 = 6 → D5_rateOf x1 M5 (fun (r8 : Int32) (M9 : MM) => Q r8 M9)) ∧ (¬ x2 = 6 → ((x2 = 7 → D5_letsOf x1 M5 (fun (r10 : Int32) (M11 : MM) => Q r10 M11)) ∧ (¬ x2 = 7 → D5_isStop x1 M5 (fun (r12 : Int32) (M13 : MM) => ((r12 = 0 → Q (0 : Int32) M13) ∧ (¬ r12 = 0 → Q (1 : Int32) M13)))))))))))))))))))) ∧ (r4 = 0 → D5_workOf_c25 Q x1 M5))))))) (up M 62 9 (0 : Int32))
set_option maxHeartbeats 4000000 in
set_option maxRecDepth 100000 in
theorem s5_workOf_c40 {G : GG} {Q : Int32 → MM → Prop} : ∀ (s0 : Int32) (M : MM), D5_workOf_c40 Q s0 M → A5_workOf G Q 40 [] [.int s0, .ref (gA G 62)] M := by
  intro s0 M h
  unfold D5_workOf_c40 at h
  refine a_callVi (n := 1) [.int _] (C := RX5) (ci := 3) (qc := (RX5, TX5, 40)) (fsF := fl3 G _) ob_62.1 (fun _ => en3 ob_62.2) rfl rfl dX5_workOf_40 (s5_refuse h) (gV tbc kM_RX5_149_X5_refuse kI_X5_refuse kS_X5_refuse kN_RX5 kC_X5_refuse) rfl (by decide +kernel) ⟨Nat.le_of_ble_eq_true rfl, Nat.le_of_ble_eq_true rfl⟩ rfl rfl (Nat.le_of_ble_eq_true rfl) ⟨Nat.le_refl 0, Nat.le_refl 0⟩ (fun r M h => ?_)
  exact a_iret dX5_workOf_43 ⟨_, rfl, h⟩
set_option maxHeartbeats 4000000 in
set_option maxRecDepth 100000 in
theorem s5_workOf_c25 {G : GG} {Q : Int32 → MM → Prop} : ∀ (x1 : Int32) (M : MM), D5_workOf_c25 Q x1 M → A5_workOf G Q 25 [(0, .ref (gA G 62)), (1, .int x1)] [] M := by
  intro x1 M h
  unfold D5_workOf_c25 at h
  refine a_aload_n dX5_workOf_25 0 rfl ?_
  refine a_aload_n dX5_workOf_26 0 rfl ?_
  refine a_iload_n dX5_workOf_27 1 rfl ?_
  refine a_callVi (n := 1) [.int _] (C := RX5) (ci := 3) (qc := (RX5, TX5, 40)) (fsF := fl3 G _) ob_62.1 (fun _ => en3 ob_62.2) rfl rfl dX5_workOf_28 (s5_isWork h) (gV tbc kM_RX5_182_X5_isWork kI_X5_isWork kS_X5_isWork kN_RX5 kC_X5_isWork) rfl (by decide +kernel) ⟨Nat.le_of_ble_eq_true rfl, Nat.le_of_ble_eq_true rfl⟩ rfl rfl (Nat.le_of_ble_eq_true rfl) ⟨Nat.le_refl 0, Nat.le_refl 0⟩ (fun r M h => ?_)
  refine a_if_eq (tgt := 39) dX5_workOf_31 (by decide) (fun c => ?_) (fun c => ?_)
  · have h := h.1 c
    refine a_iconst (v := -1) dX5_workOf_39 (by decide) ?_
    refine a_sub [] rfl ?_
    exact s5_workOf_c40 _ _ h
  · have h := h.2 c
    refine a_bipush (v := -2) dX5_workOf_34 (by decide) ?_
    refine a_goto (tgt := 40) dX5_workOf_36 (by decide) ?_
    refine a_sub [] rfl ?_
    exact s5_workOf_c40 _ _ h
set_option maxHeartbeats 4000000 in
set_option maxRecDepth 100000 in
theorem s5_workOf {G : GG} {x1 : Int32} {x2 : Int32} {M : MM} {Q : Int32 → MM → Prop} (h : D5_workOf x1 x2 M Q) : CM G yX5_workOf (WY yX5_workOf cX5_workOf 3 (some .int)) 2 46 [.ref (gA G 62), .int x1, .int x2] M (qI Q) := by
  refine CM.of (cc := cX5_workOf) (nL := 3) (ret := (some .int)) (own := RX5) (by decide +kernel) rfl rfl (Nat.le_of_ble_eq_true rfl) ?_
  show A5_workOf G Q 0 [(0, .ref (gA G 62)), (1, .int x1), (2, .int x2)] [] M
  unfold D5_workOf at h
  refine a_aload_n dX5_workOf_0 0 rfl ?_
  refine a_iconst (v := 0) dX5_workOf_1 (by decide) ?_
  refine a_put3 dX5_workOf_2 9 (by decide) (tbc _ kF_RX5_73) (fun w h => tbc _ (uW3 w h)) rfl rfl rfl rfl ob_62 fs3_9 ?_
  refine a_aload_n dX5_workOf_5 0 rfl ?_
  refine a_iload_n dX5_workOf_6 1 rfl ?_
  refine a_callVi (n := 1) [.int _] (C := RX5) (ci := 3) (qc := (RX5, TX5, 40)) (fsF := fl3 G _) ob_62.1 (fun _ => en3 ob_62.2) rfl rfl dX5_workOf_7 (s5_isWork h) (gV tbc kM_RX5_182_X5_isWork kI_X5_isWork kS_X5_isWork kN_RX5 kC_X5_isWork) rfl (by decide +kernel) ⟨Nat.le_of_ble_eq_true rfl, Nat.le_of_ble_eq_true rfl⟩ rfl rfl (Nat.le_of_ble_eq_true rfl) ⟨Nat.le_refl 0, Nat.le_refl 0⟩ (fun r M h => ?_)
  refine a_if_eq (tgt := 25) dX5_workOf_10 (by decide) (fun c => ?_) (fun c => ?_)
  · have h := h.1 c
    refine a_sub [0, 1] rfl ?_
    exact s5_workOf_c25 _ _ h
  · have h := h.2 c
    refine a_iload_n dX5_workOf_13 2 rfl ?_
    refine a_i2l dX5_workOf_14 ?_
    refine a_lconst (v := 0) dX5_workOf_15 (by decide) ?_
    refine a_ldc2 dX5_workOf_16 (tbc _ kL_RX5_240) ?_
    refine a_callSi (n := 3) [.long _, .long _, .long _] dX5_workOf_19 (s5_in h) (gS tbc kM_RX5_80_X5_in kT_X5_in kN_RX5 kC_X5_in) rfl (by decide +kernel) ⟨Nat.le_of_ble_eq_true rfl, Nat.le_of_ble_eq_true rfl⟩ rfl rfl (Nat.le_of_ble_eq_true rfl) ⟨Nat.le_refl 0, Nat.le_refl 0⟩ (fun r M h => ?_)
    refine a_if_ne (tgt := 44) dX5_workOf_22 (by decide) (fun c => ?_) (fun c => ?_)
    · have h := h.1 c
      refine a_iload_n dX5_workOf_44 2 rfl ?_
      refine em_c h (fun c0 h => ?_) (fun c0 h => ?_)
      · refine a_tableIn (off := 47) (tgt := 92) dX5_workOf_45 (by rw [c0]; decide) (by rw [c0]; decide) (by rw [c0]; rfl) (by decide) ?_
        refine a_aload_n dX5_workOf_92 0 rfl ?_
        refine a_get3 dX5_workOf_93 1 (by decide) (tbc _ kF_RX5_7) (fun w h => tbc _ (uW3 w h)) rfl ob_62 rfl ?_
        refine a_iload_n dX5_workOf_96 1 rfl ?_
        refine a_iald dX5_workOf_97 h.1 ?_
        have h := h.2
        exact a_iret dX5_workOf_98 ⟨_, rfl, h⟩
      · refine em_c h (fun c1 h => ?_) (fun c1 h => ?_)
        · refine a_tableIn (off := 54) (tgt := 99) dX5_workOf_45 (by rw [c1]; decide) (by rw [c1]; decide) (by rw [c1]; rfl) (by decide) ?_
          refine a_aload_n dX5_workOf_99 0 rfl ?_
          refine a_get3 dX5_workOf_100 2 (by decide) (tbc _ kF_RX5_13) (fun w h => tbc _ (uW3 w h)) rfl ob_62 rfl ?_
          refine a_iload_n dX5_workOf_103 1 rfl ?_
          refine a_iald dX5_workOf_104 h.1 ?_
          have h := h.2
          exact a_iret dX5_workOf_105 ⟨_, rfl, h⟩
        · refine em_c h (fun c2 h => ?_) (fun c2 h => ?_)
          · refine a_tableIn (off := 61) (tgt := 106) dX5_workOf_45 (by rw [c2]; decide) (by rw [c2]; decide) (by rw [c2]; rfl) (by decide) ?_
            refine a_aload_n dX5_workOf_106 0 rfl ?_
            refine a_get3 dX5_workOf_107 3 (by decide) (tbc _ kF_RX5_16) (fun w h => tbc _ (uW3 w h)) rfl ob_62 rfl ?_
            refine a_iload_n dX5_workOf_110 1 rfl ?_
            refine a_iald dX5_workOf_111 h.1 ?_
            have h := h.2
            exact a_iret dX5_workOf_112 ⟨_, rfl, h⟩
          · refine em_c h (fun c3 h => ?_) (fun c3 h => ?_)
            · refine a_tableIn (off := 68) (tgt := 113) dX5_workOf_45 (by rw [c3]; decide) (by rw [c3]; decide) (by rw [c3]; rfl) (by decide) ?_
              refine a_aload_n dX5_workOf_113 0 rfl ?_
              refine a_get3 dX5_workOf_114 4 (by decide) (tbc _ kF_RX5_19) (fun w h => tbc _ (uW3 w h)) rfl ob_62 rfl ?_
              refine a_iload_n dX5_workOf_117 1 rfl ?_
              refine a_iald dX5_workOf_118 h.1 ?_
              have h := h.2
              exact a_iret dX5_workOf_119 ⟨_, rfl, h⟩
            · refine em_c h (fun c4 h => ?_) (fun c4 h => ?_)
              · refine a_tableIn (off := 75) (tgt := 120) dX5_workOf_45 (by rw [c4]; decide) (by rw [c4]; decide) (by rw [c4]; rfl) (by decide) ?_
                refine a_iconst (v := 1) dX5_workOf_120 (by decide) ?_
                refine a_aload_n dX5_workOf_121 0 rfl ?_
                refine a_get3 dX5_workOf_122 5 (by decide) (tbc _ kF_RX5_22) (fun w h => tbc _ (uW3 w h)) rfl ob_62 rfl ?_
                refine a_iload_n dX5_workOf_125 1 rfl ?_
                refine a_iald dX5_workOf_126 h.1 ?_
                have h := h.2
                refine a_isub dX5_workOf_127 ?_
                exact a_iret dX5_workOf_128 ⟨_, rfl, h⟩
              · refine em_c h (fun c5 h => ?_) (fun c5 h => ?_)
                · refine a_tableIn (off := 84) (tgt := 129) dX5_workOf_45 (by rw [c5]; decide) (by rw [c5]; decide) (by rw [c5]; rfl) (by decide) ?_
                  refine a_aload_n dX5_workOf_129 0 rfl ?_
                  refine a_iload_n dX5_workOf_130 1 rfl ?_
                  refine a_callVi (n := 1) [.int _] (C := RX5) (ci := 3) (qc := (RX5, TX5, 40)) (fsF := fl3 G _) ob_62.1 (fun _ => en3 ob_62.2) rfl rfl dX5_workOf_131 (s5_holdsOf h) (gV tbc kM_RX5_143_X5_holdsOf kI_X5_holdsOf kS_X5_holdsOf kN_RX5 kC_X5_holdsOf) rfl (by decide +kernel) ⟨Nat.le_of_ble_eq_true rfl, Nat.le_of_ble_eq_true rfl⟩ rfl rfl (Nat.le_of_ble_eq_true rfl) ⟨Nat.le_refl 0, Nat.le_refl 0⟩ (fun r M h => ?_)
                  exact a_iret dX5_workOf_134 ⟨_, rfl, h⟩
                · refine em_c h (fun c6 h => ?_) (fun c6 h => ?_)
                  · refine a_tableIn (off := 90) (tgt := 135) dX5_workOf_45 (by rw [c6]; decide) (by rw [c6]; decide) (by rw [c6]; rfl) (by decide) ?_
                    refine a_aload_n dX5_workOf_135 0 rfl ?_
                    refine a_iload_n dX5_workOf_136 1 rfl ?_
                    refine a_callVi (n := 1) [.int _] (C := RX5) (ci := 3) (qc := (RX5, TX5, 40)) (fsF := fl3 G _) ob_62.1 (fun _ => en3 ob_62.2) rfl rfl dX5_workOf_137 (s5_rateOf h) (gV tbc kM_RX5_140_X5_rateOf kI_X5_rateOf kS_X5_rateOf kN_RX5 kC_X5_rateOf) rfl (by decide +kernel) ⟨Nat.le_of_ble_eq_true rfl, Nat.le_of_ble_eq_true rfl⟩ rfl rfl (Nat.le_of_ble_eq_true rfl) ⟨Nat.le_refl 0, Nat.le_refl 0⟩ (fun r M h => ?_)
                    exact a_iret dX5_workOf_140 ⟨_, rfl, h⟩
                  · refine em_c h (fun c7 h => ?_) (fun c7 h => ?_)
                    · refine a_tableIn (off := 96) (tgt := 141) dX5_workOf_45 (by rw [c7]; decide) (by rw [c7]; decide) (by rw [c7]; rfl) (by decide) ?_
                      refine a_aload_n dX5_workOf_141 0 rfl ?_
                      refine a_iload_n dX5_workOf_142 1 rfl ?_
                      refine a_callVi (n := 1) [.int _] (C := RX5) (ci := 3) (qc := (RX5, TX5, 40)) (fsF := fl3 G _) ob_62.1 (fun _ => en3 ob_62.2) rfl rfl dX5_workOf_143 (s5_letsOf h) (gV tbc kM_RX5_134_X5_letsOf kI_X5_letsOf kS_X5_letsOf kN_RX5 kC_X5_letsOf) rfl (by decide +kernel) ⟨Nat.le_of_ble_eq_true rfl, Nat.le_of_ble_eq_true rfl⟩ rfl rfl (Nat.le_of_ble_eq_true rfl) ⟨Nat.le_refl 0, Nat.le_refl 0⟩ (fun r M h => ?_)
                      exact a_iret dX5_workOf_146 ⟨_, rfl, h⟩
                    · refine a_tableD (tgt := 147) dX5_workOf_45 (by decide) (fun k h1 h2 e => by have hk : k = 0 ∨ k = 1 ∨ k = 2 ∨ k = 3 ∨ k = 4 ∨ k = 5 ∨ k = 6 ∨ k = 7 := (by omega); rcases hk with rfl | rfl | rfl | rfl | rfl | rfl | rfl | rfl <;> first | rfl | exact absurd e (ne_ti c0 (by decide)) | exact absurd e (ne_ti c1 (by decide)) | exact absurd e (ne_ti c2 (by decide)) | exact absurd e (ne_ti c3 (by decide)) | exact absurd e (ne_ti c4 (by decide)) | exact absurd e (ne_ti c5 (by decide)) | exact absurd e (ne_ti c6 (by decide)) | exact absurd e (ne_ti c7 (by decide))) ?_
                      refine a_aload_n dX5_workOf_147 0 rfl ?_
                      refine a_iload_n dX5_workOf_148 1 rfl ?_
                      refine a_callVi (n := 1) [.int _] (C := RX5) (ci := 3) (qc := (RX5, TX5, 40)) (fsF := fl3 G _) ob_62.1 (fun _ => en3 ob_62.2) rfl rfl dX5_workOf_149 (s5_isStop h) (gV tbc kM_RX5_100_X5_isStop kI_X5_isStop kS_X5_isStop kN_RX5 kC_X5_isStop) rfl (by decide +kernel) ⟨Nat.le_of_ble_eq_true rfl, Nat.le_of_ble_eq_true rfl⟩ rfl rfl (Nat.le_of_ble_eq_true rfl) ⟨Nat.le_refl 0, Nat.le_refl 0⟩ (fun r M h => ?_)
                      refine a_if_eq (tgt := 159) dX5_workOf_152 (by decide) (fun c => ?_) (fun c => ?_)
                      · have h := h.1 c
                        refine a_iconst (v := 0) dX5_workOf_159 (by decide) ?_
                        exact a_iret dX5_workOf_160 ⟨_, rfl, h⟩
                      · have h := h.2 c
                        refine a_iconst (v := 1) dX5_workOf_155 (by decide) ?_
                        refine a_goto (tgt := 160) dX5_workOf_156 (by decide) ?_
                        exact a_iret dX5_workOf_160 ⟨_, rfl, h⟩
    · have h := h.2 c
      refine a_sub [0, 1] rfl ?_
      exact s5_workOf_c25 _ _ h
