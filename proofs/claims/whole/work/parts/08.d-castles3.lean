/-! X4_purseOf -/
theorem dX4_purseOf_0 : decode cX4_purseOf 0 = .ok (.aload_n 0, 1) := by decide +kernel
theorem dX4_purseOf_1 : decode cX4_purseOf 1 = .ok (.iload_n 1, 1) := by decide +kernel
theorem dX4_purseOf_2 : decode cX4_purseOf 2 = .ok (.invokevirtual 311, 3) := by decide +kernel
theorem dX4_purseOf_5 : decode cX4_purseOf 5 = .ok (.aload_n 0, 1) := by decide +kernel
theorem dX4_purseOf_6 : decode cX4_purseOf 6 = .ok (.getfield 16, 3) := by decide +kernel
theorem dX4_purseOf_9 : decode cX4_purseOf 9 = .ok (.getfield 158, 3) := by decide +kernel
theorem dX4_purseOf_12 : decode cX4_purseOf 12 = .ok (.ireturn, 1) := by decide +kernel
abbrev A4_purseOf (G : GG) (Q : Int32 → MM → Prop) := AW G E0 (MZ G (qI Q)) (WY yX4_purseOf cX4_purseOf 2 (some .int)) RX4 cX4_purseOf 2 (some .int) ({ frames := 4, cells := 0, slots := 0, locals := 94 } : Room) 0 0
def D4_purseOf (x1 : Int32) (M : MM) (Q : Int32 → MM → Prop) : Prop := D4_payingFor x1 M (fun (M2 : MM) => Q (M2 6 7) M2)
set_option maxHeartbeats 4000000 in
set_option maxRecDepth 100000 in
theorem s4_purseOf {G : GG} {x1 : Int32} {M : MM} {Q : Int32 → MM → Prop} (h : D4_purseOf x1 M Q) : CM G yX4_purseOf (WY yX4_purseOf cX4_purseOf 2 (some .int)) 4 94 [.ref (gA G 0), .int x1] M (qI Q) := by
  refine CM.of (cc := cX4_purseOf) (nL := 2) (ret := (some .int)) (own := RX4) (by decide +kernel) rfl rfl (Nat.le_of_ble_eq_true rfl) ?_
  show A4_purseOf G Q 0 [(0, .ref (gA G 0)), (1, .int x1)] [] M
  unfold D4_purseOf at h
  refine a_aload_n dX4_purseOf_0 0 rfl ?_
  refine a_iload_n dX4_purseOf_1 1 rfl ?_
  refine a_callVv (n := 1) [.int _] (C := RX4) (ci := 2) (qc := (RX4, TX4, 12)) (fsF := fl2 G _) ob_0.1 (fun _ => en2 ob_0.2) rfl rfl dX4_purseOf_2 (s4_payingFor h) (gV tbc kM_RX4_311_X4_payingFor kI_X4_payingFor kS_X4_payingFor kN_RX4 kC_X4_payingFor) rfl (by decide +kernel) ⟨Nat.le_of_ble_eq_true rfl, Nat.le_of_ble_eq_true rfl⟩ rfl rfl (Nat.le_of_ble_eq_true rfl) ⟨Nat.le_refl 0, Nat.le_refl 0⟩ (fun M h => ?_)
  refine a_aload_n dX4_purseOf_5 0 rfl ?_
  refine a_get2 dX4_purseOf_6 1 (by decide) (tbc _ kF_RX4_16) (fun w h => tbc _ (uW2 w h)) rfl ob_0 rfl ?_
  refine a_getN0 dX4_purseOf_9 7 (by decide) (fun _ h => h.2.2.2.1) (fun w h => tbc _ (uW0 w h)) rfl ob_6 rfl ?_
  exact a_iret dX4_purseOf_12 ⟨_, rfl, h⟩

/-! X4_razes -/
theorem dX4_razes_0 : decode cX4_razes 0 = .ok (.aload_n 0, 1) := by decide +kernel
theorem dX4_razes_1 : decode cX4_razes 1 = .ok (.iload_n 1, 1) := by decide +kernel
theorem dX4_razes_2 : decode cX4_razes 2 = .ok (.invokevirtual 130, 3) := by decide +kernel
theorem dX4_razes_5 : decode cX4_razes 5 = .ok (.istore_n 2, 1) := by decide +kernel
theorem dX4_razes_6 : decode cX4_razes 6 = .ok (.iload_n 2, 1) := by decide +kernel
theorem dX4_razes_7 : decode cX4_razes 7 = .ok (.ifCond .eq 9, 3) := by decide +kernel
theorem dX4_razes_10 : decode cX4_razes 10 = .ok (.aload_n 0, 1) := by decide +kernel
theorem dX4_razes_11 : decode cX4_razes 11 = .ok (.iload_n 2, 1) := by decide +kernel
theorem dX4_razes_12 : decode cX4_razes 12 = .ok (.invokevirtual 43, 3) := by decide +kernel
theorem dX4_razes_15 : decode cX4_razes 15 = .ok (.ireturn, 1) := by decide +kernel
theorem dX4_razes_16 : decode cX4_razes 16 = .ok (.aload_n 0, 1) := by decide +kernel
theorem dX4_razes_17 : decode cX4_razes 17 = .ok (.invokevirtual 133, 3) := by decide +kernel
theorem dX4_razes_20 : decode cX4_razes 20 = .ok (.aload_n 0, 1) := by decide +kernel
theorem dX4_razes_21 : decode cX4_razes 21 = .ok (.getfield 10, 3) := by decide +kernel
theorem dX4_razes_24 : decode cX4_razes 24 = .ok (.iload_n 1, 1) := by decide +kernel
theorem dX4_razes_25 : decode cX4_razes 25 = .ok (.invokevirtual 136, 3) := by decide +kernel
theorem dX4_razes_28 : decode cX4_razes 28 = .ok (.aload_n 0, 1) := by decide +kernel
theorem dX4_razes_29 : decode cX4_razes 29 = .ok (.getfield 10, 3) := by decide +kernel
theorem dX4_razes_32 : decode cX4_razes 32 = .ok (.invokevirtual 139, 3) := by decide +kernel
theorem dX4_razes_35 : decode cX4_razes 35 = .ok (.ireturn, 1) := by decide +kernel
abbrev A4_razes (G : GG) (Q : Int32 → MM → Prop) := AW G E0 (MZ G (qI Q)) (WY yX4_razes cX4_razes 3 (some .int)) RX4 cX4_razes 3 (some .int) ({ frames := 2, cells := 0, slots := 0, locals := 43 } : Room) 0 0
def D4_razes (x1 : Int32) (M : MM) (Q : Int32 → MM → Prop) : Prop := D4_notStanding x1 M (fun (r1 : Int32) (M2 : MM) => ((r1 = 0 → D4_remembers M2 (fun (M4 : MM) => D0_loses 1 x1 M4 (fun (M6 : MM) => D0_standingWorks 1 M6 (fun (r7 : Int32) (M8 : MM) => Q r7 M8)))) ∧ (¬ r1 = 0 → D4_refused r1 M2 (fun (r9 : Int32) (M10 : MM) => Q r9 M10))))
set_option maxHeartbeats 4000000 in
set_option maxRecDepth 100000 in
theorem s4_razes {G : GG} {x1 : Int32} {M : MM} {Q : Int32 → MM → Prop} (h : D4_razes x1 M Q) : CM G yX4_razes (WY yX4_razes cX4_razes 3 (some .int)) 2 43 [.ref (gA G 0), .int x1] M (qI Q) := by
  refine CM.of (cc := cX4_razes) (nL := 3) (ret := (some .int)) (own := RX4) (by decide +kernel) rfl rfl (Nat.le_of_ble_eq_true rfl) ?_
  show A4_razes G Q 0 [(0, .ref (gA G 0)), (1, .int x1)] [] M
  unfold D4_razes at h
  refine a_aload_n dX4_razes_0 0 rfl ?_
  refine a_iload_n dX4_razes_1 1 rfl ?_
  refine a_callVi (n := 1) [.int _] (C := RX4) (ci := 2) (qc := (RX4, TX4, 12)) (fsF := fl2 G _) ob_0.1 (fun _ => en2 ob_0.2) rfl rfl dX4_razes_2 (s4_notStanding h) (gV tbc kM_RX4_130_X4_notStanding kI_X4_notStanding kS_X4_notStanding kN_RX4 kC_X4_notStanding) rfl (by decide +kernel) ⟨Nat.le_of_ble_eq_true rfl, Nat.le_of_ble_eq_true rfl⟩ rfl rfl (Nat.le_of_ble_eq_true rfl) ⟨Nat.le_refl 0, Nat.le_refl 0⟩ (fun r M h => ?_)
  refine a_istore_n (i := 2) (L' := [(2, .int _), (0, .ref _), (1, .int _)]) dX4_razes_5 rfl (by decide) rfl ?_
  refine a_iload_n dX4_razes_6 0 rfl ?_
  refine a_if_eq (tgt := 16) dX4_razes_7 (by decide) (fun c => ?_) (fun c => ?_)
  · have h := h.1 c
    refine a_aload_n dX4_razes_16 1 rfl ?_
    refine a_callVv (n := 0) [] (C := RX4) (ci := 2) (qc := (RX4, TX4, 12)) (fsF := fl2 G _) ob_0.1 (fun _ => en2 ob_0.2) rfl rfl dX4_razes_17 (s4_remembers h) (gV tbc kM_RX4_133_X4_remembers kI_X4_remembers kS_X4_remembers kN_RX4 kC_X4_remembers) rfl (by decide +kernel) ⟨Nat.le_of_ble_eq_true rfl, Nat.le_of_ble_eq_true rfl⟩ rfl rfl (Nat.le_of_ble_eq_true rfl) ⟨Nat.le_refl 0, Nat.le_refl 0⟩ (fun M h => ?_)
    refine a_aload_n dX4_razes_20 1 rfl ?_
    refine a_get2 dX4_razes_21 0 (by decide) (tbc _ kF_RX4_10) (fun w h => tbc _ (uW2 w h)) rfl ob_0 rfl ?_
    refine a_iload_n dX4_razes_24 2 rfl ?_
    refine a_callVv (n := 1) [.int _] (C := RX0) (ci := 0) (qc := (RX0, TX0, 9)) (fsF := fl0 G _) ob_1.1 (fun _ => en0 ob_1.2) rfl rfl dX4_razes_25 (s0_loses ob_1 h) (gV tbc kM_RX4_136_X0_loses kI_X0_loses kS_X0_loses kN_RX0 kC_X0_loses) rfl (by decide +kernel) ⟨Nat.le_of_ble_eq_true rfl, Nat.le_of_ble_eq_true rfl⟩ rfl rfl (Nat.le_of_ble_eq_true rfl) ⟨Nat.le_refl 0, Nat.le_refl 0⟩ (fun M h => ?_)
    refine a_aload_n dX4_razes_28 1 rfl ?_
    refine a_get2 dX4_razes_29 0 (by decide) (tbc _ kF_RX4_10) (fun w h => tbc _ (uW2 w h)) rfl ob_0 rfl ?_
    refine a_callVi (n := 0) [] (C := RX0) (ci := 0) (qc := (RX0, TX0, 9)) (fsF := fl0 G _) ob_1.1 (fun _ => en0 ob_1.2) rfl rfl dX4_razes_32 (s0_standingWorks ob_1 h) (gV tbc kM_RX4_139_X0_standingWorks kI_X0_standingWorks kS_X0_standingWorks kN_RX0 kC_X0_standingWorks) rfl (by decide +kernel) ⟨Nat.le_of_ble_eq_true rfl, Nat.le_of_ble_eq_true rfl⟩ rfl rfl (Nat.le_of_ble_eq_true rfl) ⟨Nat.le_refl 0, Nat.le_refl 0⟩ (fun r M h => ?_)
    exact a_iret dX4_razes_35 ⟨_, rfl, h⟩
  · have h := h.2 c
    refine a_aload_n dX4_razes_10 1 rfl ?_
    refine a_iload_n dX4_razes_11 0 rfl ?_
    refine a_callVi (n := 1) [.int _] (C := RX4) (ci := 2) (qc := (RX4, TX4, 12)) (fsF := fl2 G _) ob_0.1 (fun _ => en2 ob_0.2) rfl rfl dX4_razes_12 (s4_refused h) (gV tbc kM_RX4_43_X4_refused kI_X4_refused kS_X4_refused kN_RX4 kC_X4_refused) rfl (by decide +kernel) ⟨Nat.le_of_ble_eq_true rfl, Nat.le_of_ble_eq_true rfl⟩ rfl rfl (Nat.le_of_ble_eq_true rfl) ⟨Nat.le_refl 0, Nat.le_refl 0⟩ (fun r M h => ?_)
    exact a_iret dX4_razes_15 ⟨_, rfl, h⟩

/-! X4_restore -/
theorem dX4_restore_0 : decode cX4_restore 0 = .ok (.aload_n 0, 1) := by decide +kernel
theorem dX4_restore_1 : decode cX4_restore 1 = .ok (.getfield 296, 3) := by decide +kernel
theorem dX4_restore_4 : decode cX4_restore 4 = .ok (.ifCond .ne 10, 3) := by decide +kernel
theorem dX4_restore_7 : decode cX4_restore 7 = .ok (.aload_n 0, 1) := by decide +kernel
theorem dX4_restore_8 : decode cX4_restore 8 = .ok (.bipush (-3), 2) := by decide +kernel
theorem dX4_restore_10 : decode cX4_restore 10 = .ok (.invokevirtual 43, 3) := by decide +kernel
theorem dX4_restore_13 : decode cX4_restore 13 = .ok (.ireturn, 1) := by decide +kernel
theorem dX4_restore_14 : decode cX4_restore 14 = .ok (.aload_n 0, 1) := by decide +kernel
theorem dX4_restore_15 : decode cX4_restore 15 = .ok (.getfield 10, 3) := by decide +kernel
theorem dX4_restore_18 : decode cX4_restore 18 = .ok (.aload_n 0, 1) := by decide +kernel
theorem dX4_restore_19 : decode cX4_restore 19 = .ok (.getfield 19, 3) := by decide +kernel
theorem dX4_restore_22 : decode cX4_restore 22 = .ok (.invokevirtual 65, 3) := by decide +kernel
theorem dX4_restore_25 : decode cX4_restore 25 = .ok (.aload_n 0, 1) := by decide +kernel
theorem dX4_restore_26 : decode cX4_restore 26 = .ok (.iconst 0, 1) := by decide +kernel
theorem dX4_restore_27 : decode cX4_restore 27 = .ok (.putfield 76, 3) := by decide +kernel
theorem dX4_restore_30 : decode cX4_restore 30 = .ok (.aload_n 0, 1) := by decide +kernel
theorem dX4_restore_31 : decode cX4_restore 31 = .ok (.getfield 10, 3) := by decide +kernel
theorem dX4_restore_34 : decode cX4_restore 34 = .ok (.getfield 152, 3) := by decide +kernel
theorem dX4_restore_37 : decode cX4_restore 37 = .ok (.ireturn, 1) := by decide +kernel
abbrev A4_restore (G : GG) (Q : Int32 → MM → Prop) := AW G E0 (MZ G (qI Q)) (WY yX4_restore cX4_restore 1 (some .int)) RX4 cX4_restore 1 (some .int) ({ frames := 1, cells := 0, slots := 0, locals := 22 } : Room) 0 0
def D4_restore (M : MM) (Q : Int32 → MM → Prop) : Prop := (((M 0 11) ≠ 0 → D0_becomes 1 11 M (fun (M2 : MM) => (fun M3 : MM => Q (M3 1 6) M3) (up M2 0 9 (0 : Int32)))) ∧ ((M 0 11) = 0 → D4_refused (-3 : Int32) M (fun (r4 : Int32) (M5 : MM) => Q r4 M5)))
set_option maxHeartbeats 4000000 in
set_option maxRecDepth 100000 in
theorem s4_restore {G : GG} {M : MM} {Q : Int32 → MM → Prop} (h : D4_restore M Q) : CM G yX4_restore (WY yX4_restore cX4_restore 1 (some .int)) 1 22 [.ref (gA G 0)] M (qI Q) := by
  refine CM.of (cc := cX4_restore) (nL := 1) (ret := (some .int)) (own := RX4) (by decide +kernel) rfl rfl (Nat.le_of_ble_eq_true rfl) ?_
  show A4_restore G Q 0 [(0, .ref (gA G 0))] [] M
  unfold D4_restore at h
  refine a_aload_n dX4_restore_0 0 rfl ?_
  refine a_get2 dX4_restore_1 11 (by decide) (tbc _ kF_RX4_296) (fun w h => tbc _ (uW2 w h)) rfl ob_0 rfl ?_
  refine a_if_ne (tgt := 14) dX4_restore_4 (by decide) (fun c => ?_) (fun c => ?_)
  · have h := h.1 c
    refine a_aload_n dX4_restore_14 0 rfl ?_
    refine a_get2 dX4_restore_15 0 (by decide) (tbc _ kF_RX4_10) (fun w h => tbc _ (uW2 w h)) rfl ob_0 rfl ?_
    refine a_aload_n dX4_restore_18 0 rfl ?_
    refine a_get2 dX4_restore_19 2 (by decide) (tbc _ kF_RX4_19) (fun w h => tbc _ (uW2 w h)) rfl ob_0 rfl ?_
    refine a_callVv (n := 1) [.ref _] (C := RX0) (ci := 0) (qc := (RX0, TX0, 9)) (fsF := fl0 G _) ob_1.1 (fun _ => en0 ob_1.2) rfl rfl dX4_restore_22 (s0_becomes ob_1 ob_11 h) (gV tbc kM_RX4_65_X0_becomes kI_X0_becomes kS_X0_becomes kN_RX0 kC_X0_becomes) rfl (by decide +kernel) ⟨Nat.le_of_ble_eq_true rfl, Nat.le_of_ble_eq_true rfl⟩ rfl rfl (Nat.le_of_ble_eq_true rfl) ⟨Nat.le_refl 0, Nat.le_refl 0⟩ (fun M h => ?_)
    refine a_aload_n dX4_restore_25 0 rfl ?_
    refine a_iconst (v := 0) dX4_restore_26 (by decide) ?_
    refine a_put2 dX4_restore_27 9 (by decide) (tbc _ kF_RX4_76) (fun w h => tbc _ (uW2 w h)) rfl rfl rfl rfl ob_0 fs2_9 ?_
    refine a_aload_n dX4_restore_30 0 rfl ?_
    refine a_get2 dX4_restore_31 0 (by decide) (tbc _ kF_RX4_10) (fun w h => tbc _ (uW2 w h)) rfl ob_0 rfl ?_
    refine a_getN0 dX4_restore_34 6 (by decide) (fun _ h => h.2.2.1) (fun w h => tbc _ (uW0 w h)) rfl ob_1 rfl ?_
    exact a_iret dX4_restore_37 ⟨_, rfl, h⟩
  · have h := h.2 c
    refine a_aload_n dX4_restore_7 0 rfl ?_
    refine a_bipush (v := -3) dX4_restore_8 (by decide) ?_
    refine a_callVi (n := 1) [.int _] (C := RX4) (ci := 2) (qc := (RX4, TX4, 12)) (fsF := fl2 G _) ob_0.1 (fun _ => en2 ob_0.2) rfl rfl dX4_restore_10 (s4_refused h) (gV tbc kM_RX4_43_X4_refused kI_X4_refused kS_X4_refused kN_RX4 kC_X4_refused) rfl (by decide +kernel) ⟨Nat.le_of_ble_eq_true rfl, Nat.le_of_ble_eq_true rfl⟩ rfl rfl (Nat.le_of_ble_eq_true rfl) ⟨Nat.le_refl 0, Nat.le_refl 0⟩ (fun r M h => ?_)
    exact a_iret dX4_restore_13 ⟨_, rfl, h⟩

/-! X4_round -/
theorem dX4_round_0 : decode cX4_round 0 = .ok (.iload_n 1, 1) := by decide +kernel
theorem dX4_round_1 : decode cX4_round 1 = .ok (.iconst (-1), 1) := by decide +kernel
theorem dX4_round_2 : decode cX4_round 2 = .ok (.if_icmp .ge 10, 3) := by decide +kernel
theorem dX4_round_5 : decode cX4_round 5 = .ok (.aload_n 0, 1) := by decide +kernel
theorem dX4_round_6 : decode cX4_round 6 = .ok (.bipush (-4), 2) := by decide +kernel
theorem dX4_round_8 : decode cX4_round 8 = .ok (.invokevirtual 43, 3) := by decide +kernel
theorem dX4_round_11 : decode cX4_round 11 = .ok (.ireturn, 1) := by decide +kernel
theorem dX4_round_12 : decode cX4_round 12 = .ok (.aload_n 0, 1) := by decide +kernel
theorem dX4_round_13 : decode cX4_round 13 = .ok (.invokevirtual 206, 3) := by decide +kernel
theorem dX4_round_16 : decode cX4_round 16 = .ok (.iload_n 1, 1) := by decide +kernel
theorem dX4_round_17 : decode cX4_round 17 = .ok (.iconst (-1), 1) := by decide +kernel
theorem dX4_round_18 : decode cX4_round 18 = .ok (.if_icmp .ne 16, 3) := by decide +kernel
theorem dX4_round_21 : decode cX4_round 21 = .ok (.aload_n 0, 1) := by decide +kernel
theorem dX4_round_22 : decode cX4_round 22 = .ok (.iconst 0, 1) := by decide +kernel
theorem dX4_round_23 : decode cX4_round 23 = .ok (.aload_n 0, 1) := by decide +kernel
theorem dX4_round_24 : decode cX4_round 24 = .ok (.getfield 10, 3) := by decide +kernel
theorem dX4_round_27 : decode cX4_round 27 = .ok (.getfield 183, 3) := by decide +kernel
theorem dX4_round_30 : decode cX4_round 30 = .ok (.invokevirtual 209, 3) := by decide +kernel
theorem dX4_round_33 : decode cX4_round 33 = .ok (.ireturn, 1) := by decide +kernel
theorem dX4_round_34 : decode cX4_round 34 = .ok (.iload_n 1, 1) := by decide +kernel
theorem dX4_round_35 : decode cX4_round 35 = .ok (.aload_n 0, 1) := by decide +kernel
theorem dX4_round_36 : decode cX4_round 36 = .ok (.getfield 10, 3) := by decide +kernel
theorem dX4_round_39 : decode cX4_round 39 = .ok (.invokevirtual 139, 3) := by decide +kernel
theorem dX4_round_42 : decode cX4_round 42 = .ok (.if_icmp .lt 6, 3) := by decide +kernel
theorem dX4_round_45 : decode cX4_round 45 = .ok (.bipush (-9), 2) := by decide +kernel
theorem dX4_round_47 : decode cX4_round 47 = .ok (.ireturn, 1) := by decide +kernel
theorem dX4_round_48 : decode cX4_round 48 = .ok (.aload_n 0, 1) := by decide +kernel
theorem dX4_round_49 : decode cX4_round 49 = .ok (.getfield 10, 3) := by decide +kernel
theorem dX4_round_52 : decode cX4_round 52 = .ok (.getfield 183, 3) := by decide +kernel
theorem dX4_round_55 : decode cX4_round 55 = .ok (.istore_n 2, 1) := by decide +kernel
theorem dX4_round_56 : decode cX4_round 56 = .ok (.iconst 0, 1) := by decide +kernel
theorem dX4_round_57 : decode cX4_round 57 = .ok (.istore_n 3, 1) := by decide +kernel
theorem dX4_round_58 : decode cX4_round 58 = .ok (.iconst 0, 1) := by decide +kernel
theorem dX4_round_59 : decode cX4_round 59 = .ok (.istore 4, 2) := by decide +kernel
theorem dX4_round_61 : decode cX4_round 61 = .ok (.iload 4, 2) := by decide +kernel
theorem dX4_round_63 : decode cX4_round 63 = .ok (.iload_n 1, 1) := by decide +kernel
theorem dX4_round_64 : decode cX4_round 64 = .ok (.if_icmp .gt 43, 3) := by decide +kernel
theorem dX4_round_67 : decode cX4_round 67 = .ok (.iload 4, 2) := by decide +kernel
theorem dX4_round_69 : decode cX4_round 69 = .ok (.bipush 8, 2) := by decide +kernel
theorem dX4_round_71 : decode cX4_round 71 = .ok (.if_icmp .ge 36, 3) := by decide +kernel
theorem dX4_round_74 : decode cX4_round 74 = .ok (.aload_n 0, 1) := by decide +kernel
theorem dX4_round_75 : decode cX4_round 75 = .ok (.iload_n 3, 1) := by decide +kernel
theorem dX4_round_76 : decode cX4_round 76 = .ok (.iload_n 2, 1) := by decide +kernel
theorem dX4_round_77 : decode cX4_round 77 = .ok (.invokevirtual 212, 3) := by decide +kernel
theorem dX4_round_80 : decode cX4_round 80 = .ok (.istore 5, 2) := by decide +kernel
theorem dX4_round_82 : decode cX4_round 82 = .ok (.aload_n 0, 1) := by decide +kernel
theorem dX4_round_83 : decode cX4_round 83 = .ok (.getfield 10, 3) := by decide +kernel
theorem dX4_round_86 : decode cX4_round 86 = .ok (.iload 5, 2) := by decide +kernel
theorem dX4_round_88 : decode cX4_round 88 = .ok (.invokevirtual 90, 3) := by decide +kernel
theorem dX4_round_91 : decode cX4_round 91 = .ok (.istore_n 3, 1) := by decide +kernel
theorem dX4_round_92 : decode cX4_round 92 = .ok (.iload_n 2, 1) := by decide +kernel
theorem dX4_round_93 : decode cX4_round 93 = .ok (.iconst 1, 1) := by decide +kernel
theorem dX4_round_94 : decode cX4_round 94 = .ok (.iload 5, 2) := by decide +kernel
theorem dX4_round_96 : decode cX4_round 96 = .ok (.ishl, 1) := by decide +kernel
theorem dX4_round_97 : decode cX4_round 97 = .ok (.iconst (-1), 1) := by decide +kernel
theorem dX4_round_98 : decode cX4_round 98 = .ok (.ixor, 1) := by decide +kernel
theorem dX4_round_99 : decode cX4_round 99 = .ok (.iand, 1) := by decide +kernel
theorem dX4_round_100 : decode cX4_round 100 = .ok (.istore_n 2, 1) := by decide +kernel
theorem dX4_round_101 : decode cX4_round 101 = .ok (.iinc 4 1, 3) := by decide +kernel
theorem dX4_round_104 : decode cX4_round 104 = .ok (.goto (-43), 3) := by decide +kernel
theorem dX4_round_107 : decode cX4_round 107 = .ok (.iload_n 3, 1) := by decide +kernel
theorem dX4_round_108 : decode cX4_round 108 = .ok (.ireturn, 1) := by decide +kernel
abbrev A4_round (G : GG) (Q : Int32 → MM → Prop) := AW G E0 (MZ G (qI Q)) (WY yX4_round cX4_round 6 (some .int)) RX4 cX4_round 6 (some .int) ({ frames := 6, cells := 0, slots := 0, locals := 138 } : Room) 0 0
def D4_round_c61 (Q : Int32 → MM → Prop) : Nat → Int32 → Int32 → Int32 → Int32 → MM → Prop
  | 0, _, _, _, _, _ => False
  | n + 1, x1, x2, x3, x4, M => ((x1 < x4 → Q x3 M) ∧ (¬ x1 < x4 → (((8 : Int32) ≤ x4 → Q x3 M) ∧ (¬ (8 : Int32) ≤ x4 → D4_nextStop x3 x2 M (fun (r10 : Int32) (M11 : MM) => D0_cellOf 1 r10 M11 (fun (r12 : Int32) (M13 : MM) => (fun v14 : Int32 => (fun v15 : Int32 => D4_round_c61 Q n x1 v14 r12 v15 M13) (x4 + (1 : Int32))) (x2 &&& (((1 : Int32) <<< (r10 &&& 31)) ^^^ (-1 : Int32)))))))))
def D4_round (x1 : Int32) (M : MM) (Q : Int32 → MM → Prop) : Prop := (((-1 : Int32) ≤ x1 → D4_planRoutes M (fun (M2 : MM) => ((x1 ≠ (-1 : Int32) → D0_standingWorks 1 M2 (fun (r3 : Int32) (M4 : MM) => ((x1 < r3 → (fun v5 : Int32 => D4_round_c61 Q FU x1 v5 (0 : Int32) (0 : Int32) M4) (M4 1 5)) ∧ (¬ x1 < r3 → Q (-9 : Int32) M4)))) ∧ (x1 = (-1 : Int32) → D4_stepsOver (0 : Int32) (M2 1 5) M2 (fun (r6 : Int32) (M7 : MM) => Q r6 M7))))) ∧ (¬ (-1 : Int32) ≤ x1 → D4_refused (-4 : Int32) M (fun (r8 : Int32) (M9 : MM) => Q r8 M9)))
set_option maxHeartbeats 4000000 in
set_option maxRecDepth 100000 in
theorem s4_round_c61 {G : GG} {Q : Int32 → MM → Prop} : ∀ (n : Nat) (x1 : Int32) (x2 : Int32) (x3 : Int32) (x4 : Int32) (M : MM), D4_round_c61 Q n x1 x2 x3 x4 M → A4_round G Q 61 [(0, .ref (gA G 0)), (1, .int x1), (2, .int x2), (3, .int x3), (4, .int x4)] [] M := by
  intro n
  induction n with
  | zero => intro x1 x2 x3 x4 M h; exact h.elim
  | succ n ih =>
    intro x1 x2 x3 x4 M h
    unfold D4_round_c61 at h
    refine a_iload dX4_round_61 4 rfl ?_
    refine a_iload_n dX4_round_63 1 rfl ?_
    refine a_icmp_gt (tgt := 107) dX4_round_64 (by decide) (fun c => ?_) (fun c => ?_)
    · have h := h.1 c
      refine a_iload_n dX4_round_107 3 rfl ?_
      exact a_iret dX4_round_108 ⟨_, rfl, h⟩
    · have h := h.2 c
      refine a_iload dX4_round_67 4 rfl ?_
      refine a_bipush (v := 8) dX4_round_69 (by decide) ?_
      refine a_icmp_ge (tgt := 107) dX4_round_71 (by decide) (fun c => ?_) (fun c => ?_)
      · have h := h.1 c
        refine a_iload_n dX4_round_107 3 rfl ?_
        exact a_iret dX4_round_108 ⟨_, rfl, h⟩
      · have h := h.2 c
        refine a_aload_n dX4_round_74 0 rfl ?_
        refine a_iload_n dX4_round_75 3 rfl ?_
        refine a_iload_n dX4_round_76 2 rfl ?_
        refine a_callVi (n := 2) [.int _, .int _] (C := RX4) (ci := 2) (qc := (RX4, TX4, 12)) (fsF := fl2 G _) ob_0.1 (fun _ => en2 ob_0.2) rfl rfl dX4_round_77 (s4_nextStop h) (gV tbc kM_RX4_212_X4_nextStop kI_X4_nextStop kS_X4_nextStop kN_RX4 kC_X4_nextStop) rfl (by decide +kernel) ⟨Nat.le_of_ble_eq_true rfl, Nat.le_of_ble_eq_true rfl⟩ rfl rfl (Nat.le_of_ble_eq_true rfl) ⟨Nat.le_refl 0, Nat.le_refl 0⟩ (fun r M h => ?_)
        refine a_istore (i := 5) (L' := [(5, .int _), (0, .ref _), (1, .int _), (2, .int _), (3, .int _), (4, .int _)]) dX4_round_80 (by decide) rfl ?_
        refine a_aload_n dX4_round_82 1 rfl ?_
        refine a_get2 dX4_round_83 0 (by decide) (tbc _ kF_RX4_10) (fun w h => tbc _ (uW2 w h)) rfl ob_0 rfl ?_
        refine a_iload dX4_round_86 0 rfl ?_
        refine a_callVi (n := 1) [.int _] (C := RX0) (ci := 0) (qc := (RX0, TX0, 9)) (fsF := fl0 G _) ob_1.1 (fun _ => en0 ob_1.2) rfl rfl dX4_round_88 (s0_cellOf ob_1 h) (gV tbc kM_RX4_90_X0_cellOf kI_X0_cellOf kS_X0_cellOf kN_RX0 kC_X0_cellOf) rfl (by decide +kernel) ⟨Nat.le_of_ble_eq_true rfl, Nat.le_of_ble_eq_true rfl⟩ rfl rfl (Nat.le_of_ble_eq_true rfl) ⟨Nat.le_refl 0, Nat.le_refl 0⟩ (fun r M h => ?_)
        refine a_istore_n (i := 3) (L' := [(3, .int _), (5, .int _), (0, .ref _), (1, .int _), (2, .int _), (4, .int _)]) dX4_round_91 rfl (by decide) rfl ?_
        refine a_iload_n dX4_round_92 4 rfl ?_
        refine a_iconst (v := 1) dX4_round_93 (by decide) ?_
        refine a_iload dX4_round_94 1 rfl ?_
        refine a_ishl dX4_round_96 ?_
        refine a_iconst (v := -1) dX4_round_97 (by decide) ?_
        refine a_ixor dX4_round_98 ?_
        refine a_iand dX4_round_99 ?_
        refine a_istore_n (i := 2) (L' := [(2, .int _), (3, .int _), (5, .int _), (0, .ref _), (1, .int _), (4, .int _)]) dX4_round_100 rfl (by decide) rfl ?_
        refine a_iinc (L' := [(4, .int _), (2, .int _), (3, .int _), (5, .int _), (0, .ref _), (1, .int _)]) dX4_round_101 5 rfl (show _ + Int32.ofInt (1 : Int) = _ + (1 : Int32) from rfl) (by decide) rfl ?_
        refine a_goto (tgt := 61) dX4_round_104 (by decide) ?_
        refine a_sub [4, 5, 1, 2, 0] rfl ?_
        exact ih _ _ _ _ _ h
set_option maxHeartbeats 4000000 in
set_option maxRecDepth 100000 in
theorem s4_round {G : GG} {x1 : Int32} {M : MM} {Q : Int32 → MM → Prop} (h : D4_round x1 M Q) : CM G yX4_round (WY yX4_round cX4_round 6 (some .int)) 6 138 [.ref (gA G 0), .int x1] M (qI Q) := by
  refine CM.of (cc := cX4_round) (nL := 6) (ret := (some .int)) (own := RX4) (by decide +kernel) rfl rfl (Nat.le_of_ble_eq_true rfl) ?_
  show A4_round G Q 0 [(0, .ref (gA G 0)), (1, .int x1)] [] M
  unfold D4_round at h
  refine a_iload_n dX4_round_0 1 rfl ?_
  refine a_iconst (v := -1) dX4_round_1 (by decide) ?_
  refine a_icmp_ge (tgt := 12) dX4_round_2 (by decide) (fun c => ?_) (fun c => ?_)
  · have h := h.1 c
    refine a_aload_n dX4_round_12 0 rfl ?_
    refine a_callVv (n := 0) [] (C := RX4) (ci := 2) (qc := (RX4, TX4, 12)) (fsF := fl2 G _) ob_0.1 (fun _ => en2 ob_0.2) rfl rfl dX4_round_13 (s4_planRoutes h) (gV tbc kM_RX4_206_X4_planRoutes kI_X4_planRoutes kS_X4_planRoutes kN_RX4 kC_X4_planRoutes) rfl (by decide +kernel) ⟨Nat.le_of_ble_eq_true rfl, Nat.le_of_ble_eq_true rfl⟩ rfl rfl (Nat.le_of_ble_eq_true rfl) ⟨Nat.le_refl 0, Nat.le_refl 0⟩ (fun M h => ?_)
    refine a_iload_n dX4_round_16 1 rfl ?_
    refine a_iconst (v := -1) dX4_round_17 (by decide) ?_
    refine a_icmp_ne (tgt := 34) dX4_round_18 (by decide) (fun c => ?_) (fun c => ?_)
    · have h := h.1 c
      refine a_iload_n dX4_round_34 1 rfl ?_
      refine a_aload_n dX4_round_35 0 rfl ?_
      refine a_get2 dX4_round_36 0 (by decide) (tbc _ kF_RX4_10) (fun w h => tbc _ (uW2 w h)) rfl ob_0 rfl ?_
      refine a_callVi (n := 0) [] (C := RX0) (ci := 0) (qc := (RX0, TX0, 9)) (fsF := fl0 G _) ob_1.1 (fun _ => en0 ob_1.2) rfl rfl dX4_round_39 (s0_standingWorks ob_1 h) (gV tbc kM_RX4_139_X0_standingWorks kI_X0_standingWorks kS_X0_standingWorks kN_RX0 kC_X0_standingWorks) rfl (by decide +kernel) ⟨Nat.le_of_ble_eq_true rfl, Nat.le_of_ble_eq_true rfl⟩ rfl rfl (Nat.le_of_ble_eq_true rfl) ⟨Nat.le_refl 0, Nat.le_refl 0⟩ (fun r M h => ?_)
      refine a_icmp_lt (tgt := 48) dX4_round_42 (by decide) (fun c => ?_) (fun c => ?_)
      · have h := h.1 c
        refine a_aload_n dX4_round_48 0 rfl ?_
        refine a_get2 dX4_round_49 0 (by decide) (tbc _ kF_RX4_10) (fun w h => tbc _ (uW2 w h)) rfl ob_0 rfl ?_
        refine a_getN0 dX4_round_52 5 (by decide) (fun _ h => h.2.2.2.2.1) (fun w h => tbc _ (uW0 w h)) rfl ob_1 rfl ?_
        refine a_istore_n (i := 2) (L' := [(2, .int _), (0, .ref _), (1, .int _)]) dX4_round_55 rfl (by decide) rfl ?_
        refine a_iconst (v := 0) dX4_round_56 (by decide) ?_
        refine a_istore_n (i := 3) (L' := [(3, .int _), (2, .int _), (0, .ref _), (1, .int _)]) dX4_round_57 rfl (by decide) rfl ?_
        refine a_iconst (v := 0) dX4_round_58 (by decide) ?_
        refine a_istore (i := 4) (L' := [(4, .int _), (3, .int _), (2, .int _), (0, .ref _), (1, .int _)]) dX4_round_59 (by decide) rfl ?_
        refine a_sub [3, 4, 2, 1, 0] rfl ?_
        exact s4_round_c61 _ _ _ _ _ _ h
      · have h := h.2 c
        refine a_bipush (v := -9) dX4_round_45 (by decide) ?_
        exact a_iret dX4_round_47 ⟨_, rfl, h⟩
    · have h := h.2 c
      refine a_aload_n dX4_round_21 0 rfl ?_
      refine a_iconst (v := 0) dX4_round_22 (by decide) ?_
      refine a_aload_n dX4_round_23 0 rfl ?_
      refine a_get2 dX4_round_24 0 (by decide) (tbc _ kF_RX4_10) (fun w h => tbc _ (uW2 w h)) rfl ob_0 rfl ?_
      refine a_getN0 dX4_round_27 5 (by decide) (fun _ h => h.2.2.2.2.1) (fun w h => tbc _ (uW0 w h)) rfl ob_1 rfl ?_
      refine a_callVi (n := 2) [.int _, .int _] (C := RX4) (ci := 2) (qc := (RX4, TX4, 12)) (fsF := fl2 G _) ob_0.1 (fun _ => en2 ob_0.2) rfl rfl dX4_round_30 (s4_stepsOver h) (gV tbc kM_RX4_209_X4_stepsOver kI_X4_stepsOver kS_X4_stepsOver kN_RX4 kC_X4_stepsOver) rfl (by decide +kernel) ⟨Nat.le_of_ble_eq_true rfl, Nat.le_of_ble_eq_true rfl⟩ rfl rfl (Nat.le_of_ble_eq_true rfl) ⟨Nat.le_refl 0, Nat.le_refl 0⟩ (fun r M h => ?_)
      exact a_iret dX4_round_33 ⟨_, rfl, h⟩
  · have h := h.2 c
    refine a_aload_n dX4_round_5 0 rfl ?_
    refine a_bipush (v := -4) dX4_round_6 (by decide) ?_
    refine a_callVi (n := 1) [.int _] (C := RX4) (ci := 2) (qc := (RX4, TX4, 12)) (fsF := fl2 G _) ob_0.1 (fun _ => en2 ob_0.2) rfl rfl dX4_round_8 (s4_refused h) (gV tbc kM_RX4_43_X4_refused kI_X4_refused kS_X4_refused kN_RX4 kC_X4_refused) rfl (by decide +kernel) ⟨Nat.le_of_ble_eq_true rfl, Nat.le_of_ble_eq_true rfl⟩ rfl rfl (Nat.le_of_ble_eq_true rfl) ⟨Nat.le_refl 0, Nat.le_refl 0⟩ (fun r M h => ?_)
    exact a_iret dX4_round_11 ⟨_, rfl, h⟩

/-! X4_row -/
theorem dX4_row_0 : decode cX4_row 0 = .ok (.iload_n 1, 1) := by decide +kernel
theorem dX4_row_1 : decode cX4_row 1 = .ok (.ifCond .ge 10, 3) := by decide +kernel
theorem dX4_row_4 : decode cX4_row 4 = .ok (.aload_n 0, 1) := by decide +kernel
theorem dX4_row_5 : decode cX4_row 5 = .ok (.bipush (-4), 2) := by decide +kernel
theorem dX4_row_7 : decode cX4_row 7 = .ok (.invokevirtual 43, 3) := by decide +kernel
theorem dX4_row_10 : decode cX4_row 10 = .ok (.ireturn, 1) := by decide +kernel
theorem dX4_row_11 : decode cX4_row 11 = .ok (.iload_n 1, 1) := by decide +kernel
theorem dX4_row_12 : decode cX4_row 12 = .ok (.bipush 99, 2) := by decide +kernel
theorem dX4_row_14 : decode cX4_row 14 = .ok (.if_icmp .gt 19, 3) := by decide +kernel
theorem dX4_row_17 : decode cX4_row 17 = .ok (.aload_n 0, 1) := by decide +kernel
theorem dX4_row_18 : decode cX4_row 18 = .ok (.getfield 290, 3) := by decide +kernel
theorem dX4_row_21 : decode cX4_row 21 = .ok (.ifCond .lt 12, 3) := by decide +kernel
theorem dX4_row_24 : decode cX4_row 24 = .ok (.aload_n 0, 1) := by decide +kernel
theorem dX4_row_25 : decode cX4_row 25 = .ok (.getfield 290, 3) := by decide +kernel
theorem dX4_row_28 : decode cX4_row 28 = .ok (.bipush 12, 2) := by decide +kernel
theorem dX4_row_30 : decode cX4_row 30 = .ok (.if_icmp .lt 10, 3) := by decide +kernel
theorem dX4_row_33 : decode cX4_row 33 = .ok (.aload_n 0, 1) := by decide +kernel
theorem dX4_row_34 : decode cX4_row 34 = .ok (.bipush (-6), 2) := by decide +kernel
theorem dX4_row_36 : decode cX4_row 36 = .ok (.invokevirtual 43, 3) := by decide +kernel
theorem dX4_row_39 : decode cX4_row 39 = .ok (.ireturn, 1) := by decide +kernel
theorem dX4_row_40 : decode cX4_row 40 = .ok (.aload_n 0, 1) := by decide +kernel
theorem dX4_row_41 : decode cX4_row 41 = .ok (.getfield 33, 3) := by decide +kernel
theorem dX4_row_44 : decode cX4_row 44 = .ok (.aload_n 0, 1) := by decide +kernel
theorem dX4_row_45 : decode cX4_row 45 = .ok (.getfield 290, 3) := by decide +kernel
theorem dX4_row_48 : decode cX4_row 48 = .ok (.iload_n 1, 1) := by decide +kernel
theorem dX4_row_49 : decode cX4_row 49 = .ok (.iastore, 1) := by decide +kernel
theorem dX4_row_50 : decode cX4_row 50 = .ok (.aload_n 0, 1) := by decide +kernel
theorem dX4_row_51 : decode cX4_row 51 = .ok (.dup, 1) := by decide +kernel
theorem dX4_row_52 : decode cX4_row 52 = .ok (.getfield 290, 3) := by decide +kernel
theorem dX4_row_55 : decode cX4_row 55 = .ok (.iconst 1, 1) := by decide +kernel
theorem dX4_row_56 : decode cX4_row 56 = .ok (.iadd, 1) := by decide +kernel
theorem dX4_row_57 : decode cX4_row 57 = .ok (.putfield 290, 3) := by decide +kernel
theorem dX4_row_60 : decode cX4_row 60 = .ok (.aload_n 0, 1) := by decide +kernel
theorem dX4_row_61 : decode cX4_row 61 = .ok (.getfield 290, 3) := by decide +kernel
theorem dX4_row_64 : decode cX4_row 64 = .ok (.ireturn, 1) := by decide +kernel
abbrev A4_row (G : GG) (Q : Int32 → MM → Prop) := AW G E0 (MZ G (qI Q)) (WY yX4_row cX4_row 2 (some .int)) RX4 cX4_row 2 (some .int) ({ frames := 1, cells := 0, slots := 0, locals := 22 } : Room) 0 0
def D4_row_c33 (Q : Int32 → MM → Prop) (M : MM) : Prop := D4_refused (-6 : Int32) M (fun (r5 : Int32) (M6 : MM) => Q r5 M6)
def D4_row (x1 : Int32) (M : MM) (Q : Int32 → MM → Prop) : Prop := ((0 ≤ x1 → (((99 : Int32) < x1 → D4_row_c33 Q M) ∧ (¬ (99 : Int32) < x1 → (((M 0 8) < 0 → D4_row_c33 Q M) ∧ (¬ (M 0 8) < 0 → (((M 0 8) < (12 : Int32) → ib 59 (M 0 8) ∧ (fun M1 : MM => (fun M2 : MM => Q (M2 0 8) M2) (up M1 0 8 ((M1 0 8) + (1 : Int32)))) (up M 59 (ix (M 0 8)) x1)) ∧ (¬ (M 0 8) < (12 : Int32) → D4_row_c33 Q M))))))) ∧ (¬ 0 ≤ x1 → D4_refused (-4 : Int32) M (fun (r3 : Int32) (M4 : MM) => Q r3 M4)))
set_option maxHeartbeats 4000000 in
set_option maxRecDepth 100000 in
theorem s4_row_c33 {G : GG} {Q : Int32 → MM → Prop} : ∀  (M : MM), D4_row_c33 Q M → A4_row G Q 33 [(0, .ref (gA G 0))] [] M := by
  intro  M h
  unfold D4_row_c33 at h
  refine a_aload_n dX4_row_33 0 rfl ?_
  refine a_bipush (v := -6) dX4_row_34 (by decide) ?_
  refine a_callVi (n := 1) [.int _] (C := RX4) (ci := 2) (qc := (RX4, TX4, 12)) (fsF := fl2 G _) ob_0.1 (fun _ => en2 ob_0.2) rfl rfl dX4_row_36 (s4_refused h) (gV tbc kM_RX4_43_X4_refused kI_X4_refused kS_X4_refused kN_RX4 kC_X4_refused) rfl (by decide +kernel) ⟨Nat.le_of_ble_eq_true rfl, Nat.le_of_ble_eq_true rfl⟩ rfl rfl (Nat.le_of_ble_eq_true rfl) ⟨Nat.le_refl 0, Nat.le_refl 0⟩ (fun r M h => ?_)
  exact a_iret dX4_row_39 ⟨_, rfl, h⟩
set_option maxHeartbeats 4000000 in
set_option maxRecDepth 100000 in
theorem s4_row {G : GG} {x1 : Int32} {M : MM} {Q : Int32 → MM → Prop} (h : D4_row x1 M Q) : CM G yX4_row (WY yX4_row cX4_row 2 (some .int)) 1 22 [.ref (gA G 0), .int x1] M (qI Q) := by
  refine CM.of (cc := cX4_row) (nL := 2) (ret := (some .int)) (own := RX4) (by decide +kernel) rfl rfl (Nat.le_of_ble_eq_true rfl) ?_
  show A4_row G Q 0 [(0, .ref (gA G 0)), (1, .int x1)] [] M
  unfold D4_row at h
  refine a_iload_n dX4_row_0 1 rfl ?_
  refine a_if_ge (tgt := 11) dX4_row_1 (by decide) (fun c => ?_) (fun c => ?_)
  · have h := h.1 c
    refine a_iload_n dX4_row_11 1 rfl ?_
    refine a_bipush (v := 99) dX4_row_12 (by decide) ?_
    refine a_icmp_gt (tgt := 33) dX4_row_14 (by decide) (fun c => ?_) (fun c => ?_)
    · have h := h.1 c
      refine a_sub [0] rfl ?_
      exact s4_row_c33 _ h
    · have h := h.2 c
      refine a_aload_n dX4_row_17 0 rfl ?_
      refine a_get2 dX4_row_18 8 (by decide) (tbc _ kF_RX4_290) (fun w h => tbc _ (uW2 w h)) rfl ob_0 rfl ?_
      refine a_if_lt (tgt := 33) dX4_row_21 (by decide) (fun c => ?_) (fun c => ?_)
      · have h := h.1 c
        refine a_sub [0] rfl ?_
        exact s4_row_c33 _ h
      · have h := h.2 c
        refine a_aload_n dX4_row_24 0 rfl ?_
        refine a_get2 dX4_row_25 8 (by decide) (tbc _ kF_RX4_290) (fun w h => tbc _ (uW2 w h)) rfl ob_0 rfl ?_
        refine a_bipush (v := 12) dX4_row_28 (by decide) ?_
        refine a_icmp_lt (tgt := 40) dX4_row_30 (by decide) (fun c => ?_) (fun c => ?_)
        · have h := h.1 c
          refine a_aload_n dX4_row_40 0 rfl ?_
          refine a_get2 dX4_row_41 5 (by decide) (tbc _ kF_RX4_33) (fun w h => tbc _ (uW2 w h)) rfl ob_0 rfl ?_
          refine a_aload_n dX4_row_44 0 rfl ?_
          refine a_get2 dX4_row_45 8 (by decide) (tbc _ kF_RX4_290) (fun w h => tbc _ (uW2 w h)) rfl ob_0 rfl ?_
          refine a_iload_n dX4_row_48 1 rfl ?_
          refine a_iast dX4_row_49 h.1 ?_
          have h := h.2
          refine a_aload_n dX4_row_50 0 rfl ?_
          refine a_dup dX4_row_51 rfl ?_
          refine a_get2 dX4_row_52 8 (by decide) (tbc _ kF_RX4_290) (fun w h => tbc _ (uW2 w h)) rfl ob_0 rfl ?_
          refine a_iconst (v := 1) dX4_row_55 (by decide) ?_
          refine a_iadd dX4_row_56 ?_
          refine a_put2 dX4_row_57 8 (by decide) (tbc _ kF_RX4_290) (fun w h => tbc _ (uW2 w h)) rfl rfl rfl rfl ob_0 fs2_8 ?_
          refine a_aload_n dX4_row_60 0 rfl ?_
          refine a_get2 dX4_row_61 8 (by decide) (tbc _ kF_RX4_290) (fun w h => tbc _ (uW2 w h)) rfl ob_0 rfl ?_
          exact a_iret dX4_row_64 ⟨_, rfl, h⟩
        · have h := h.2 c
          refine a_sub [0] rfl ?_
          exact s4_row_c33 _ h
  · have h := h.2 c
    refine a_aload_n dX4_row_4 0 rfl ?_
    refine a_bipush (v := -4) dX4_row_5 (by decide) ?_
    refine a_callVi (n := 1) [.int _] (C := RX4) (ci := 2) (qc := (RX4, TX4, 12)) (fsF := fl2 G _) ob_0.1 (fun _ => en2 ob_0.2) rfl rfl dX4_row_7 (s4_refused h) (gV tbc kM_RX4_43_X4_refused kI_X4_refused kS_X4_refused kN_RX4 kC_X4_refused) rfl (by decide +kernel) ⟨Nat.le_of_ble_eq_true rfl, Nat.le_of_ble_eq_true rfl⟩ rfl rfl (Nat.le_of_ble_eq_true rfl) ⟨Nat.le_refl 0, Nat.le_refl 0⟩ (fun r M h => ?_)
    exact a_iret dX4_row_10 ⟨_, rfl, h⟩

/-! X4_sand -/
theorem dX4_sand_0 : decode cX4_sand 0 = .ok (.aload_n 0, 1) := by decide +kernel
theorem dX4_sand_1 : decode cX4_sand 1 = .ok (.getfield 16, 3) := by decide +kernel
theorem dX4_sand_4 : decode cX4_sand 4 = .ok (.aload_n 0, 1) := by decide +kernel
theorem dX4_sand_5 : decode cX4_sand 5 = .ok (.getfield 10, 3) := by decide +kernel
theorem dX4_sand_8 : decode cX4_sand 8 = .ok (.invokevirtual 65, 3) := by decide +kernel
theorem dX4_sand_11 : decode cX4_sand 11 = .ok (.iconst 0, 1) := by decide +kernel
theorem dX4_sand_12 : decode cX4_sand 12 = .ok (.istore_n 1, 1) := by decide +kernel
theorem dX4_sand_13 : decode cX4_sand 13 = .ok (.iload_n 1, 1) := by decide +kernel
theorem dX4_sand_14 : decode cX4_sand 14 = .ok (.bipush 60, 2) := by decide +kernel
theorem dX4_sand_16 : decode cX4_sand 16 = .ok (.if_icmp .gt 29, 3) := by decide +kernel
theorem dX4_sand_19 : decode cX4_sand 19 = .ok (.aload_n 0, 1) := by decide +kernel
theorem dX4_sand_20 : decode cX4_sand 20 = .ok (.getfield 16, 3) := by decide +kernel
theorem dX4_sand_23 : decode cX4_sand 23 = .ok (.getfield 183, 3) := by decide +kernel
theorem dX4_sand_26 : decode cX4_sand 26 = .ok (.ifCond .ne 5, 3) := by decide +kernel
theorem dX4_sand_29 : decode cX4_sand 29 = .ok (.iload_n 1, 1) := by decide +kernel
theorem dX4_sand_30 : decode cX4_sand 30 = .ok (.ireturn, 1) := by decide +kernel
theorem dX4_sand_31 : decode cX4_sand 31 = .ok (.aload_n 0, 1) := by decide +kernel
theorem dX4_sand_32 : decode cX4_sand 32 = .ok (.getfield 16, 3) := by decide +kernel
theorem dX4_sand_35 : decode cX4_sand 35 = .ok (.iconst 1, 1) := by decide +kernel
theorem dX4_sand_36 : decode cX4_sand 36 = .ok (.invokevirtual 155, 3) := by decide +kernel
theorem dX4_sand_39 : decode cX4_sand 39 = .ok (.iinc 1 1, 3) := by decide +kernel
theorem dX4_sand_42 : decode cX4_sand 42 = .ok (.goto (-29), 3) := by decide +kernel
theorem dX4_sand_45 : decode cX4_sand 45 = .ok (.bipush (-9), 2) := by decide +kernel
theorem dX4_sand_47 : decode cX4_sand 47 = .ok (.ireturn, 1) := by decide +kernel
abbrev A4_sand (G : GG) (Q : Int32 → MM → Prop) := AW G E0 (MZ G (qI Q)) (WY yX4_sand cX4_sand 2 (some .int)) RX4 cX4_sand 2 (some .int) ({ frames := 4, cells := 0, slots := 0, locals := 94 } : Room) 0 0
def D4_sand_c13 (Q : Int32 → MM → Prop) : Nat → Int32 → MM → Prop
  | 0, _, _ => False
  | n + 1, x1, M => (((60 : Int32) < x1 → Q (-9 : Int32) M) ∧ (¬ (60 : Int32) < x1 → (((M 6 5) ≠ 0 → D0_goesOn 6 (1 : Int32) M (fun (M4 : MM) => (fun v5 : Int32 => D4_sand_c13 Q n v5 M4) (x1 + (1 : Int32)))) ∧ ((M 6 5) = 0 → Q x1 M))))
def D4_sand (M : MM) (Q : Int32 → MM → Prop) : Prop := D0_becomes 6 1 M (fun (M2 : MM) => D4_sand_c13 Q FU (0 : Int32) M2)
set_option maxHeartbeats 4000000 in
set_option maxRecDepth 100000 in
theorem s4_sand_c13 {G : GG} {Q : Int32 → MM → Prop} : ∀ (n : Nat) (x1 : Int32) (M : MM), D4_sand_c13 Q n x1 M → A4_sand G Q 13 [(0, .ref (gA G 0)), (1, .int x1)] [] M := by
  intro n
  induction n with
  | zero => intro x1 M h; exact h.elim
  | succ n ih =>
    intro x1 M h
    unfold D4_sand_c13 at h
    refine a_iload_n dX4_sand_13 1 rfl ?_
    refine a_bipush (v := 60) dX4_sand_14 (by decide) ?_
    refine a_icmp_gt (tgt := 45) dX4_sand_16 (by decide) (fun c => ?_) (fun c => ?_)
    · have h := h.1 c
      refine a_bipush (v := -9) dX4_sand_45 (by decide) ?_
      exact a_iret dX4_sand_47 ⟨_, rfl, h⟩
    · have h := h.2 c
      refine a_aload_n dX4_sand_19 0 rfl ?_
      refine a_get2 dX4_sand_20 1 (by decide) (tbc _ kF_RX4_16) (fun w h => tbc _ (uW2 w h)) rfl ob_0 rfl ?_
      refine a_getN0 dX4_sand_23 5 (by decide) (fun _ h => h.2.2.2.2.1) (fun w h => tbc _ (uW0 w h)) rfl ob_6 rfl ?_
      refine a_if_ne (tgt := 31) dX4_sand_26 (by decide) (fun c => ?_) (fun c => ?_)
      · have h := h.1 c
        refine a_aload_n dX4_sand_31 0 rfl ?_
        refine a_get2 dX4_sand_32 1 (by decide) (tbc _ kF_RX4_16) (fun w h => tbc _ (uW2 w h)) rfl ob_0 rfl ?_
        refine a_iconst (v := 1) dX4_sand_35 (by decide) ?_
        refine a_callVv (n := 1) [.int _] (C := RX0) (ci := 0) (qc := (RX0, TX0, 9)) (fsF := fl0 G _) ob_6.1 (fun _ => en0 ob_6.2) rfl rfl dX4_sand_36 (s0_goesOn ob_6 h) (gV tbc kM_RX4_155_X0_goesOn kI_X0_goesOn kS_X0_goesOn kN_RX0 kC_X0_goesOn) rfl (by decide +kernel) ⟨Nat.le_of_ble_eq_true rfl, Nat.le_of_ble_eq_true rfl⟩ rfl rfl (Nat.le_of_ble_eq_true rfl) ⟨Nat.le_refl 0, Nat.le_refl 0⟩ (fun M h => ?_)
        refine a_iinc (L' := [(1, .int _), (0, .ref _)]) dX4_sand_39 1 rfl (show _ + Int32.ofInt (1 : Int) = _ + (1 : Int32) from rfl) (by decide) rfl ?_
        refine a_goto (tgt := 13) dX4_sand_42 (by decide) ?_
        refine a_sub [1, 0] rfl ?_
        exact ih _ _ h
      · have h := h.2 c
        refine a_iload_n dX4_sand_29 1 rfl ?_
        exact a_iret dX4_sand_30 ⟨_, rfl, h⟩
set_option maxHeartbeats 4000000 in
set_option maxRecDepth 100000 in
theorem s4_sand {G : GG} {M : MM} {Q : Int32 → MM → Prop} (h : D4_sand M Q) : CM G yX4_sand (WY yX4_sand cX4_sand 2 (some .int)) 4 94 [.ref (gA G 0)] M (qI Q) := by
  refine CM.of (cc := cX4_sand) (nL := 2) (ret := (some .int)) (own := RX4) (by decide +kernel) rfl rfl (Nat.le_of_ble_eq_true rfl) ?_
  show A4_sand G Q 0 [(0, .ref (gA G 0))] [] M
  unfold D4_sand at h
  refine a_aload_n dX4_sand_0 0 rfl ?_
  refine a_get2 dX4_sand_1 1 (by decide) (tbc _ kF_RX4_16) (fun w h => tbc _ (uW2 w h)) rfl ob_0 rfl ?_
  refine a_aload_n dX4_sand_4 0 rfl ?_
  refine a_get2 dX4_sand_5 0 (by decide) (tbc _ kF_RX4_10) (fun w h => tbc _ (uW2 w h)) rfl ob_0 rfl ?_
  refine a_callVv (n := 1) [.ref _] (C := RX0) (ci := 0) (qc := (RX0, TX0, 9)) (fsF := fl0 G _) ob_6.1 (fun _ => en0 ob_6.2) rfl rfl dX4_sand_8 (s0_becomes ob_6 ob_1 h) (gV tbc kM_RX4_65_X0_becomes kI_X0_becomes kS_X0_becomes kN_RX0 kC_X0_becomes) rfl (by decide +kernel) ⟨Nat.le_of_ble_eq_true rfl, Nat.le_of_ble_eq_true rfl⟩ rfl rfl (Nat.le_of_ble_eq_true rfl) ⟨Nat.le_refl 0, Nat.le_refl 0⟩ (fun M h => ?_)
  refine a_iconst (v := 0) dX4_sand_11 (by decide) ?_
  refine a_istore_n (i := 1) (L' := [(1, .int _), (0, .ref _)]) dX4_sand_12 rfl (by decide) rfl ?_
  refine a_sub [1, 0] rfl ?_
  exact s4_sand_c13 _ _ _ h

/-! X4_shares -/
theorem dX4_shares_0 : decode cX4_shares 0 = .ok (.iload_n 1, 1) := by decide +kernel
theorem dX4_shares_1 : decode cX4_shares 1 = .ok (.iconst 1, 1) := by decide +kernel
theorem dX4_shares_2 : decode cX4_shares 2 = .ok (.if_icmp .ge 10, 3) := by decide +kernel
theorem dX4_shares_5 : decode cX4_shares 5 = .ok (.aload_n 0, 1) := by decide +kernel
theorem dX4_shares_6 : decode cX4_shares 6 = .ok (.bipush (-4), 2) := by decide +kernel
theorem dX4_shares_8 : decode cX4_shares 8 = .ok (.invokevirtual 43, 3) := by decide +kernel
theorem dX4_shares_11 : decode cX4_shares 11 = .ok (.ireturn, 1) := by decide +kernel
theorem dX4_shares_12 : decode cX4_shares 12 = .ok (.iload_n 1, 1) := by decide +kernel
theorem dX4_shares_13 : decode cX4_shares 13 = .ok (.bipush 9, 2) := by decide +kernel
theorem dX4_shares_15 : decode cX4_shares 15 = .ok (.if_icmp .le 10, 3) := by decide +kernel
theorem dX4_shares_18 : decode cX4_shares 18 = .ok (.aload_n 0, 1) := by decide +kernel
theorem dX4_shares_19 : decode cX4_shares 19 = .ok (.bipush (-6), 2) := by decide +kernel
theorem dX4_shares_21 : decode cX4_shares 21 = .ok (.invokevirtual 43, 3) := by decide +kernel
theorem dX4_shares_24 : decode cX4_shares 24 = .ok (.ireturn, 1) := by decide +kernel
theorem dX4_shares_25 : decode cX4_shares 25 = .ok (.iload_n 2, 1) := by decide +kernel
theorem dX4_shares_26 : decode cX4_shares 26 = .ok (.ifCond .lt 8, 3) := by decide +kernel
theorem dX4_shares_29 : decode cX4_shares 29 = .ok (.iload_n 2, 1) := by decide +kernel
theorem dX4_shares_30 : decode cX4_shares 30 = .ok (.iconst 1, 1) := by decide +kernel
theorem dX4_shares_31 : decode cX4_shares 31 = .ok (.if_icmp .le 10, 3) := by decide +kernel
theorem dX4_shares_34 : decode cX4_shares 34 = .ok (.aload_n 0, 1) := by decide +kernel
theorem dX4_shares_35 : decode cX4_shares 35 = .ok (.bipush (-2), 2) := by decide +kernel
theorem dX4_shares_37 : decode cX4_shares 37 = .ok (.invokevirtual 43, 3) := by decide +kernel
theorem dX4_shares_40 : decode cX4_shares 40 = .ok (.ireturn, 1) := by decide +kernel
theorem dX4_shares_41 : decode cX4_shares 41 = .ok (.iload_n 2, 1) := by decide +kernel
theorem dX4_shares_42 : decode cX4_shares 42 = .ok (.ifCond .ne 15, 3) := by decide +kernel
theorem dX4_shares_45 : decode cX4_shares 45 = .ok (.aload_n 0, 1) := by decide +kernel
theorem dX4_shares_46 : decode cX4_shares 46 = .ok (.getfield 10, 3) := by decide +kernel
theorem dX4_shares_49 : decode cX4_shares 49 = .ok (.getfield 158, 3) := by decide +kernel
theorem dX4_shares_52 : decode cX4_shares 52 = .ok (.iload_n 1, 1) := by decide +kernel
theorem dX4_shares_53 : decode cX4_shares 53 = .ok (.idiv, 1) := by decide +kernel
theorem dX4_shares_54 : decode cX4_shares 54 = .ok (.goto 12, 3) := by decide +kernel
theorem dX4_shares_57 : decode cX4_shares 57 = .ok (.aload_n 0, 1) := by decide +kernel
theorem dX4_shares_58 : decode cX4_shares 58 = .ok (.getfield 10, 3) := by decide +kernel
theorem dX4_shares_61 : decode cX4_shares 61 = .ok (.getfield 158, 3) := by decide +kernel
theorem dX4_shares_64 : decode cX4_shares 64 = .ok (.iload_n 1, 1) := by decide +kernel
theorem dX4_shares_65 : decode cX4_shares 65 = .ok (.irem, 1) := by decide +kernel
theorem dX4_shares_66 : decode cX4_shares 66 = .ok (.ireturn, 1) := by decide +kernel
abbrev A4_shares (G : GG) (Q : Int32 → MM → Prop) := AW G E0 (MZ G (qI Q)) (WY yX4_shares cX4_shares 3 (some .int)) RX4 cX4_shares 3 (some .int) ({ frames := 1, cells := 0, slots := 0, locals := 22 } : Room) 0 0
def D4_shares_c34 (Q : Int32 → MM → Prop) (M : MM) : Prop := D4_refused (-2 : Int32) M (fun (r5 : Int32) (M6 : MM) => Q r5 M6)
def D4_shares (x1 : Int32) (x2 : Int32) (M : MM) (Q : Int32 → MM → Prop) : Prop := (((1 : Int32) ≤ x1 → ((x1 ≤ (9 : Int32) → ((x2 < 0 → D4_shares_c34 Q M) ∧ (¬ x2 < 0 → ((x2 ≤ (1 : Int32) → ((x2 ≠ 0 → ¬ x1 = 0 ∧ Q ((M 1 7) - (M 1 7) / x1 * x1) M) ∧ (x2 = 0 → ¬ x1 = 0 ∧ Q ((M 1 7) / x1) M))) ∧ (¬ x2 ≤ (1 : Int32) → D4_shares_c34 Q M))))) ∧ (¬ x1 ≤ (9 : Int32) → D4_refused (-6 : Int32) M (fun (r1 : Int32) (M2 : MM) => Q r1 M2)))) ∧ (¬ (1 : Int32) ≤ x1 → D4_refused (-4 : Int32) M (fun (r3 : Int32) (M4 : MM) => Q r3 M4)))
set_option maxHeartbeats 4000000 in
set_option maxRecDepth 100000 in
theorem s4_shares_c34 {G : GG} {Q : Int32 → MM → Prop} : ∀  (M : MM), D4_shares_c34 Q M → A4_shares G Q 34 [(0, .ref (gA G 0))] [] M := by
  intro  M h
  unfold D4_shares_c34 at h
  refine a_aload_n dX4_shares_34 0 rfl ?_
  refine a_bipush (v := -2) dX4_shares_35 (by decide) ?_
  refine a_callVi (n := 1) [.int _] (C := RX4) (ci := 2) (qc := (RX4, TX4, 12)) (fsF := fl2 G _) ob_0.1 (fun _ => en2 ob_0.2) rfl rfl dX4_shares_37 (s4_refused h) (gV tbc kM_RX4_43_X4_refused kI_X4_refused kS_X4_refused kN_RX4 kC_X4_refused) rfl (by decide +kernel) ⟨Nat.le_of_ble_eq_true rfl, Nat.le_of_ble_eq_true rfl⟩ rfl rfl (Nat.le_of_ble_eq_true rfl) ⟨Nat.le_refl 0, Nat.le_refl 0⟩ (fun r M h => ?_)
  exact a_iret dX4_shares_40 ⟨_, rfl, h⟩
set_option maxHeartbeats 4000000 in
set_option maxRecDepth 100000 in
theorem s4_shares {G : GG} {x1 : Int32} {x2 : Int32} {M : MM} {Q : Int32 → MM → Prop} (h : D4_shares x1 x2 M Q) : CM G yX4_shares (WY yX4_shares cX4_shares 3 (some .int)) 1 22 [.ref (gA G 0), .int x1, .int x2] M (qI Q) := by
  refine CM.of (cc := cX4_shares) (nL := 3) (ret := (some .int)) (own := RX4) (by decide +kernel) rfl rfl (Nat.le_of_ble_eq_true rfl) ?_
  show A4_shares G Q 0 [(0, .ref (gA G 0)), (1, .int x1), (2, .int x2)] [] M
  unfold D4_shares at h
  refine a_iload_n dX4_shares_0 1 rfl ?_
  refine a_iconst (v := 1) dX4_shares_1 (by decide) ?_
  refine a_icmp_ge (tgt := 12) dX4_shares_2 (by decide) (fun c => ?_) (fun c => ?_)
  · have h := h.1 c
    refine a_iload_n dX4_shares_12 1 rfl ?_
    refine a_bipush (v := 9) dX4_shares_13 (by decide) ?_
    refine a_icmp_le (tgt := 25) dX4_shares_15 (by decide) (fun c => ?_) (fun c => ?_)
    · have h := h.1 c
      refine a_iload_n dX4_shares_25 2 rfl ?_
      refine a_if_lt (tgt := 34) dX4_shares_26 (by decide) (fun c => ?_) (fun c => ?_)
      · have h := h.1 c
        refine a_sub [0] rfl ?_
        exact s4_shares_c34 _ h
      · have h := h.2 c
        refine a_iload_n dX4_shares_29 2 rfl ?_
        refine a_iconst (v := 1) dX4_shares_30 (by decide) ?_
        refine a_icmp_le (tgt := 41) dX4_shares_31 (by decide) (fun c => ?_) (fun c => ?_)
        · have h := h.1 c
          refine a_iload_n dX4_shares_41 2 rfl ?_
          refine a_if_ne (tgt := 57) dX4_shares_42 (by decide) (fun c => ?_) (fun c => ?_)
          · have h := h.1 c
            refine a_aload_n dX4_shares_57 0 rfl ?_
            refine a_get2 dX4_shares_58 0 (by decide) (tbc _ kF_RX4_10) (fun w h => tbc _ (uW2 w h)) rfl ob_0 rfl ?_
            refine a_getN0 dX4_shares_61 7 (by decide) (fun _ h => h.2.2.2.1) (fun w h => tbc _ (uW0 w h)) rfl ob_1 rfl ?_
            refine a_iload_n dX4_shares_64 1 rfl ?_
            refine a_irem dX4_shares_65 h.1 ?_
            have h := h.2
            exact a_iret dX4_shares_66 ⟨_, rfl, h⟩
          · have h := h.2 c
            refine a_aload_n dX4_shares_45 0 rfl ?_
            refine a_get2 dX4_shares_46 0 (by decide) (tbc _ kF_RX4_10) (fun w h => tbc _ (uW2 w h)) rfl ob_0 rfl ?_
            refine a_getN0 dX4_shares_49 7 (by decide) (fun _ h => h.2.2.2.1) (fun w h => tbc _ (uW0 w h)) rfl ob_1 rfl ?_
            refine a_iload_n dX4_shares_52 1 rfl ?_
            refine a_idiv dX4_shares_53 h.1 ?_
            have h := h.2
            refine a_goto (tgt := 66) dX4_shares_54 (by decide) ?_
            exact a_iret dX4_shares_66 ⟨_, rfl, h⟩
        · have h := h.2 c
          refine a_sub [0] rfl ?_
          exact s4_shares_c34 _ h
    · have h := h.2 c
      refine a_aload_n dX4_shares_18 0 rfl ?_
      refine a_bipush (v := -6) dX4_shares_19 (by decide) ?_
      refine a_callVi (n := 1) [.int _] (C := RX4) (ci := 2) (qc := (RX4, TX4, 12)) (fsF := fl2 G _) ob_0.1 (fun _ => en2 ob_0.2) rfl rfl dX4_shares_21 (s4_refused h) (gV tbc kM_RX4_43_X4_refused kI_X4_refused kS_X4_refused kN_RX4 kC_X4_refused) rfl (by decide +kernel) ⟨Nat.le_of_ble_eq_true rfl, Nat.le_of_ble_eq_true rfl⟩ rfl rfl (Nat.le_of_ble_eq_true rfl) ⟨Nat.le_refl 0, Nat.le_refl 0⟩ (fun r M h => ?_)
      exact a_iret dX4_shares_24 ⟨_, rfl, h⟩
  · have h := h.2 c
    refine a_aload_n dX4_shares_5 0 rfl ?_
    refine a_bipush (v := -4) dX4_shares_6 (by decide) ?_
    refine a_callVi (n := 1) [.int _] (C := RX4) (ci := 2) (qc := (RX4, TX4, 12)) (fsF := fl2 G _) ob_0.1 (fun _ => en2 ob_0.2) rfl rfl dX4_shares_8 (s4_refused h) (gV tbc kM_RX4_43_X4_refused kI_X4_refused kS_X4_refused kN_RX4 kC_X4_refused) rfl (by decide +kernel) ⟨Nat.le_of_ble_eq_true rfl, Nat.le_of_ble_eq_true rfl⟩ rfl rfl (Nat.le_of_ble_eq_true rfl) ⟨Nat.le_refl 0, Nat.le_refl 0⟩ (fun r M h => ?_)
    exact a_iret dX4_shares_11 ⟨_, rfl, h⟩

/-! X4_swells -/
theorem dX4_swells_0 : decode cX4_swells 0 = .ok (.aload_n 0, 1) := by decide +kernel
theorem dX4_swells_1 : decode cX4_swells 1 = .ok (.getfield 10, 3) := by decide +kernel
theorem dX4_swells_4 : decode cX4_swells 4 = .ok (.iload_n 1, 1) := by decide +kernel
theorem dX4_swells_5 : decode cX4_swells 5 = .ok (.invokevirtual 80, 3) := by decide +kernel
theorem dX4_swells_8 : decode cX4_swells 8 = .ok (.ifCond .ne 9, 3) := by decide +kernel
theorem dX4_swells_11 : decode cX4_swells 11 = .ok (.aload_n 0, 1) := by decide +kernel
theorem dX4_swells_12 : decode cX4_swells 12 = .ok (.iconst (-1), 1) := by decide +kernel
theorem dX4_swells_13 : decode cX4_swells 13 = .ok (.invokevirtual 247, 3) := by decide +kernel
theorem dX4_swells_16 : decode cX4_swells 16 = .ok (.lreturn, 1) := by decide +kernel
theorem dX4_swells_17 : decode cX4_swells 17 = .ok (.iload_n 2, 1) := by decide +kernel
theorem dX4_swells_18 : decode cX4_swells 18 = .ok (.ifCond .lt 8, 3) := by decide +kernel
theorem dX4_swells_21 : decode cX4_swells 21 = .ok (.iload_n 3, 1) := by decide +kernel
theorem dX4_swells_22 : decode cX4_swells 22 = .ok (.iconst 2, 1) := by decide +kernel
theorem dX4_swells_23 : decode cX4_swells 23 = .ok (.if_icmp .ge 10, 3) := by decide +kernel
theorem dX4_swells_26 : decode cX4_swells 26 = .ok (.aload_n 0, 1) := by decide +kernel
theorem dX4_swells_27 : decode cX4_swells 27 = .ok (.bipush (-4), 2) := by decide +kernel
theorem dX4_swells_29 : decode cX4_swells 29 = .ok (.invokevirtual 247, 3) := by decide +kernel
theorem dX4_swells_32 : decode cX4_swells 32 = .ok (.lreturn, 1) := by decide +kernel
theorem dX4_swells_33 : decode cX4_swells 33 = .ok (.iload_n 2, 1) := by decide +kernel
theorem dX4_swells_34 : decode cX4_swells 34 = .ok (.bipush 7, 2) := by decide +kernel
theorem dX4_swells_36 : decode cX4_swells 36 = .ok (.if_icmp .gt 9, 3) := by decide +kernel
theorem dX4_swells_39 : decode cX4_swells 39 = .ok (.iload_n 3, 1) := by decide +kernel
theorem dX4_swells_40 : decode cX4_swells 40 = .ok (.bipush 20, 2) := by decide +kernel
theorem dX4_swells_42 : decode cX4_swells 42 = .ok (.if_icmp .le 10, 3) := by decide +kernel
theorem dX4_swells_45 : decode cX4_swells 45 = .ok (.aload_n 0, 1) := by decide +kernel
theorem dX4_swells_46 : decode cX4_swells 46 = .ok (.bipush (-6), 2) := by decide +kernel
theorem dX4_swells_48 : decode cX4_swells 48 = .ok (.invokevirtual 247, 3) := by decide +kernel
theorem dX4_swells_51 : decode cX4_swells 51 = .ok (.lreturn, 1) := by decide +kernel
theorem dX4_swells_52 : decode cX4_swells 52 = .ok (.iload 4, 2) := by decide +kernel
theorem dX4_swells_54 : decode cX4_swells 54 = .ok (.ifCond .lt 9, 3) := by decide +kernel
theorem dX4_swells_57 : decode cX4_swells 57 = .ok (.iload 4, 2) := by decide +kernel
theorem dX4_swells_59 : decode cX4_swells 59 = .ok (.iconst 1, 1) := by decide +kernel
theorem dX4_swells_60 : decode cX4_swells 60 = .ok (.if_icmp .le 10, 3) := by decide +kernel
theorem dX4_swells_63 : decode cX4_swells 63 = .ok (.aload_n 0, 1) := by decide +kernel
theorem dX4_swells_64 : decode cX4_swells 64 = .ok (.bipush (-2), 2) := by decide +kernel
theorem dX4_swells_66 : decode cX4_swells 66 = .ok (.invokevirtual 247, 3) := by decide +kernel
theorem dX4_swells_69 : decode cX4_swells 69 = .ok (.lreturn, 1) := by decide +kernel
theorem dX4_swells_70 : decode cX4_swells 70 = .ok (.lconst 0, 1) := by decide +kernel
theorem dX4_swells_71 : decode cX4_swells 71 = .ok (.lstore 5, 2) := by decide +kernel
theorem dX4_swells_73 : decode cX4_swells 73 = .ok (.iconst 0, 1) := by decide +kernel
theorem dX4_swells_74 : decode cX4_swells 74 = .ok (.istore 7, 2) := by decide +kernel
theorem dX4_swells_76 : decode cX4_swells 76 = .ok (.iload 7, 2) := by decide +kernel
theorem dX4_swells_78 : decode cX4_swells 78 = .ok (.iconst 1, 1) := by decide +kernel
theorem dX4_swells_79 : decode cX4_swells 79 = .ok (.iload_n 2, 1) := by decide +kernel
theorem dX4_swells_80 : decode cX4_swells 80 = .ok (.ishl, 1) := by decide +kernel
theorem dX4_swells_81 : decode cX4_swells 81 = .ok (.if_icmp .ge 79, 3) := by decide +kernel
theorem dX4_swells_84 : decode cX4_swells 84 = .ok (.aload_n 0, 1) := by decide +kernel
theorem dX4_swells_85 : decode cX4_swells 85 = .ok (.getfield 16, 3) := by decide +kernel
theorem dX4_swells_88 : decode cX4_swells 88 = .ok (.aload_n 0, 1) := by decide +kernel
theorem dX4_swells_89 : decode cX4_swells 89 = .ok (.getfield 10, 3) := by decide +kernel
theorem dX4_swells_92 : decode cX4_swells 92 = .ok (.invokevirtual 65, 3) := by decide +kernel
theorem dX4_swells_95 : decode cX4_swells 95 = .ok (.iconst 0, 1) := by decide +kernel
theorem dX4_swells_96 : decode cX4_swells 96 = .ok (.istore 8, 2) := by decide +kernel
theorem dX4_swells_98 : decode cX4_swells 98 = .ok (.iload 8, 2) := by decide +kernel
theorem dX4_swells_100 : decode cX4_swells 100 = .ok (.iload_n 2, 1) := by decide +kernel
theorem dX4_swells_101 : decode cX4_swells 101 = .ok (.if_icmp .ge 24, 3) := by decide +kernel
theorem dX4_swells_104 : decode cX4_swells 104 = .ok (.aload_n 0, 1) := by decide +kernel
theorem dX4_swells_105 : decode cX4_swells 105 = .ok (.getfield 16, 3) := by decide +kernel
theorem dX4_swells_108 : decode cX4_swells 108 = .ok (.iload 7, 2) := by decide +kernel
theorem dX4_swells_110 : decode cX4_swells 110 = .ok (.iload 8, 2) := by decide +kernel
theorem dX4_swells_112 : decode cX4_swells 112 = .ok (.ishr, 1) := by decide +kernel
theorem dX4_swells_113 : decode cX4_swells 113 = .ok (.iconst 1, 1) := by decide +kernel
theorem dX4_swells_114 : decode cX4_swells 114 = .ok (.iand, 1) := by decide +kernel
theorem dX4_swells_115 : decode cX4_swells 115 = .ok (.iconst 0, 1) := by decide +kernel
theorem dX4_swells_116 : decode cX4_swells 116 = .ok (.invokevirtual 251, 3) := by decide +kernel
theorem dX4_swells_119 : decode cX4_swells 119 = .ok (.iinc 8 1, 3) := by decide +kernel
theorem dX4_swells_122 : decode cX4_swells 122 = .ok (.goto (-24), 3) := by decide +kernel
theorem dX4_swells_125 : decode cX4_swells 125 = .ok (.aload_n 0, 1) := by decide +kernel
theorem dX4_swells_126 : decode cX4_swells 126 = .ok (.getfield 16, 3) := by decide +kernel
theorem dX4_swells_129 : decode cX4_swells 129 = .ok (.iload_n 1, 1) := by decide +kernel
theorem dX4_swells_130 : decode cX4_swells 130 = .ok (.invokevirtual 96, 3) := by decide +kernel
theorem dX4_swells_133 : decode cX4_swells 133 = .ok (.ifCond .eq 21, 3) := by decide +kernel
theorem dX4_swells_136 : decode cX4_swells 136 = .ok (.lload 5, 2) := by decide +kernel
theorem dX4_swells_138 : decode cX4_swells 138 = .ok (.iload_n 3, 1) := by decide +kernel
theorem dX4_swells_139 : decode cX4_swells 139 = .ok (.iconst 1, 1) := by decide +kernel
theorem dX4_swells_140 : decode cX4_swells 140 = .ok (.isub, 1) := by decide +kernel
theorem dX4_swells_141 : decode cX4_swells 141 = .ok (.iload_n 2, 1) := by decide +kernel
theorem dX4_swells_142 : decode cX4_swells 142 = .ok (.iload 7, 2) := by decide +kernel
theorem dX4_swells_144 : decode cX4_swells 144 = .ok (.invokestatic 254, 3) := by decide +kernel
theorem dX4_swells_147 : decode cX4_swells 147 = .ok (.isub, 1) := by decide +kernel
theorem dX4_swells_148 : decode cX4_swells 148 = .ok (.invokestatic 259, 3) := by decide +kernel
theorem dX4_swells_151 : decode cX4_swells 151 = .ok (.ladd, 1) := by decide +kernel
theorem dX4_swells_152 : decode cX4_swells 152 = .ok (.lstore 5, 2) := by decide +kernel
theorem dX4_swells_154 : decode cX4_swells 154 = .ok (.iinc 7 1, 3) := by decide +kernel
theorem dX4_swells_157 : decode cX4_swells 157 = .ok (.goto (-81), 3) := by decide +kernel
theorem dX4_swells_160 : decode cX4_swells 160 = .ok (.lload 5, 2) := by decide +kernel
theorem dX4_swells_162 : decode cX4_swells 162 = .ok (.iload_n 3, 1) := by decide +kernel
theorem dX4_swells_163 : decode cX4_swells 163 = .ok (.iload_n 2, 1) := by decide +kernel
theorem dX4_swells_164 : decode cX4_swells 164 = .ok (.invokestatic 259, 3) := by decide +kernel
theorem dX4_swells_167 : decode cX4_swells 167 = .ok (.iload 4, 2) := by decide +kernel
theorem dX4_swells_169 : decode cX4_swells 169 = .ok (.invokestatic 263, 3) := by decide +kernel
theorem dX4_swells_172 : decode cX4_swells 172 = .ok (.lreturn, 1) := by decide +kernel
abbrev A4_swells (G : GG) (Q : Int64 → MM → Prop) := AW G E0 (MZ G (qL Q)) (WY yX4_swells cX4_swells 9 (some .long)) RX4 cX4_swells 9 (some .long) ({ frames := 3, cells := 0, slots := 0, locals := 72 } : Room) 0 0
def D4_swells_c26 (Q : Int64 → MM → Prop) (M : MM) : Prop := D4_refusedLong (-4 : Int32) M (fun (r5 : Int64) (M6 : MM) => Q r5 M6)
def D4_swells_c45 (Q : Int64 → MM → Prop) (M : MM) : Prop := D4_refusedLong (-6 : Int32) M (fun (r7 : Int64) (M8 : MM) => Q r7 M8)
def D4_swells_c63 (Q : Int64 → MM → Prop) (M : MM) : Prop := D4_refusedLong (-2 : Int32) M (fun (r9 : Int64) (M10 : MM) => Q r9 M10)
def D4_swells_c154 (K76 : Int32 → Int32 → Int32 → Int32 → Int64 → Int32 → MM → Prop) (Q : Int64 → MM → Prop) (x1 : Int32) (x2 : Int32) (x3 : Int32) (x4 : Int32) (x5 : Int64) (x7 : Int32) (M : MM) : Prop := (fun v27 : Int32 => K76 x1 x2 x3 x4 x5 v27 M) (x7 + (1 : Int32))
def D4_swells_c125 (K76 : Int32 → Int32 → Int32 → Int32 → Int64 → Int32 → MM → Prop) (Q : Int64 → MM → Prop) (x1 : Int32) (x2 : Int32) (x3 : Int32) (x4 : Int32) (x5 : Int64) (x7 : Int32) (M : MM) : Prop := D0_stands 6 x1 M (fun (r20 : Int32) (M21 : MM) => ((r20 = 0 → D4_swells_c154 K76 Q x1 x2 x3 x4 x5 x7 M21) ∧ (¬ r20 = 0 → DJ6_bitCount x7 M21 (fun (r22 : Int32) (M23 : MM) => D4_power (x3 - (1 : Int32)) (x2 - r22) M23 (fun (r24 : Int64) (M25 : MM) => (fun v26 : Int64 => D4_swells_c154 K76 Q x1 x2 x3 x4 v26 x7 M25) (x5 + r24))))))
def D4_swells_c98 (K76 : Int32 → Int32 → Int32 → Int32 → Int64 → Int32 → MM → Prop) (Q : Int64 → MM → Prop) : Nat → Int32 → Int32 → Int32 → Int32 → Int64 → Int32 → Int32 → MM → Prop
  | 0, _, _, _, _, _, _, _, _ => False
  | n + 1, x1, x2, x3, x4, x5, x7, x8, M => ((x2 ≤ x8 → D4_swells_c125 K76 Q x1 x2 x3 x4 x5 x7 M) ∧ (¬ x2 ≤ x8 → D0_anHour 6 ((x7 >>> (x8 &&& 31)) &&& (1 : Int32)) (0 : Int32) M (fun (M18 : MM) => (fun v19 : Int32 => D4_swells_c98 K76 Q n x1 x2 x3 x4 x5 x7 v19 M18) (x8 + (1 : Int32)))))
def D4_swells_c160 (Q : Int64 → MM → Prop) (x2 : Int32) (x3 : Int32) (x4 : Int32) (x5 : Int64) (M : MM) : Prop := D4_power x3 x2 M (fun (r13 : Int64) (M14 : MM) => D4_fraction x5 r13 x4 M14 (fun (r15 : Int64) (M16 : MM) => Q r15 M16))
def D4_swells_c76 (Q : Int64 → MM → Prop) : Nat → Int32 → Int32 → Int32 → Int32 → Int64 → Int32 → MM → Prop
  | 0, _, _, _, _, _, _, _ => False
  | n + 1, x1, x2, x3, x4, x5, x7, M => ((((1 : Int32) <<< (x2 &&& 31)) ≤ x7 → D4_swells_c160 Q x2 x3 x4 x5 M) ∧ (¬ ((1 : Int32) <<< (x2 &&& 31)) ≤ x7 → D0_becomes 6 1 M (fun (M12 : MM) => D4_swells_c98 (D4_swells_c76 Q n) Q FU x1 x2 x3 x4 x5 x7 (0 : Int32) M12)))
def D4_swells (x1 : Int32) (x2 : Int32) (x3 : Int32) (x4 : Int32) (M : MM) (Q : Int64 → MM → Prop) : Prop := D0_knows 1 x1 M (fun (r1 : Int32) (M2 : MM) => ((r1 ≠ 0 → ((x2 < 0 → D4_swells_c26 Q M2) ∧ (¬ x2 < 0 → (((2 : Int32) ≤ x3 → (((7 : Int32) < x2 → D4_swells_c45 Q M2) ∧ (¬ (7 : Int32) < x2 → ((x3 ≤ (20 : Int32) → ((x4 < 0 → D4_swells_c63 Q M2) ∧ (¬ x4 < 0 → ((x4 ≤ (1 : Int32) → D4_swells_c76 Q FU x1 x2 x3 x4 (0 : Int64) (0 : Int32) M2) ∧ (¬ x4 ≤ (1 : Int32) → D4_swells_c63 Q M2))))) ∧ (¬ x3 ≤ (20 : Int32) → D4_swells_c45 Q M2))))) ∧ (¬ (2 : Int32) ≤ x3 → D4_swells_c26 Q M2))))) ∧ (r1 = 0 → D4_refusedLong (-1 : Int32) M2 (fun (r3 : Int64) (M4 : MM) => Q r3 M4))))
set_option maxHeartbeats 4000000 in
set_option maxRecDepth 100000 in
theorem s4_swells_c26 {G : GG} {Q : Int64 → MM → Prop} : ∀  (M : MM), D4_swells_c26 Q M → A4_swells G Q 26 [(0, .ref (gA G 0))] [] M := by
  intro  M h
  unfold D4_swells_c26 at h
  refine a_aload_n dX4_swells_26 0 rfl ?_
  refine a_bipush (v := -4) dX4_swells_27 (by decide) ?_
  refine a_callVl (n := 1) [.int _] (C := RX4) (ci := 2) (qc := (RX4, TX4, 12)) (fsF := fl2 G _) ob_0.1 (fun _ => en2 ob_0.2) rfl rfl dX4_swells_29 (s4_refusedLong h) (gV tbc kM_RX4_247_X4_refusedLong kI_X4_refusedLong kS_X4_refusedLong kN_RX4 kC_X4_refusedLong) rfl (by decide +kernel) ⟨Nat.le_of_ble_eq_true rfl, Nat.le_of_ble_eq_true rfl⟩ rfl rfl (Nat.le_of_ble_eq_true rfl) ⟨Nat.le_refl 0, Nat.le_refl 0⟩ (fun r M h => ?_)
  exact a_lret dX4_swells_32 ⟨_, rfl, h⟩
set_option maxHeartbeats 4000000 in
set_option maxRecDepth 100000 in
theorem s4_swells_c45 {G : GG} {Q : Int64 → MM → Prop} : ∀  (M : MM), D4_swells_c45 Q M → A4_swells G Q 45 [(0, .ref (gA G 0))] [] M := by
  intro  M h
  unfold D4_swells_c45 at h
  refine a_aload_n dX4_swells_45 0 rfl ?_
  refine a_bipush (v := -6) dX4_swells_46 (by decide) ?_
  refine a_callVl (n := 1) [.int _] (C := RX4) (ci := 2) (qc := (RX4, TX4, 12)) (fsF := fl2 G _) ob_0.1 (fun _ => en2 ob_0.2) rfl rfl dX4_swells_48 (s4_refusedLong h) (gV tbc kM_RX4_247_X4_refusedLong kI_X4_refusedLong kS_X4_refusedLong kN_RX4 kC_X4_refusedLong) rfl (by decide +kernel) ⟨Nat.le_of_ble_eq_true rfl, Nat.le_of_ble_eq_true rfl⟩ rfl rfl (Nat.le_of_ble_eq_true rfl) ⟨Nat.le_refl 0, Nat.le_refl 0⟩ (fun r M h => ?_)
  exact a_lret dX4_swells_51 ⟨_, rfl, h⟩
set_option maxHeartbeats 4000000 in
set_option maxRecDepth 100000 in
theorem s4_swells_c63 {G : GG} {Q : Int64 → MM → Prop} : ∀  (M : MM), D4_swells_c63 Q M → A4_swells G Q 63 [(0, .ref (gA G 0))] [] M := by
  intro  M h
  unfold D4_swells_c63 at h
  refine a_aload_n dX4_swells_63 0 rfl ?_
  refine a_bipush (v := -2) dX4_swells_64 (by decide) ?_
  refine a_callVl (n := 1) [.int _] (C := RX4) (ci := 2) (qc := (RX4, TX4, 12)) (fsF := fl2 G _) ob_0.1 (fun _ => en2 ob_0.2) rfl rfl dX4_swells_66 (s4_refusedLong h) (gV tbc kM_RX4_247_X4_refusedLong kI_X4_refusedLong kS_X4_refusedLong kN_RX4 kC_X4_refusedLong) rfl (by decide +kernel) ⟨Nat.le_of_ble_eq_true rfl, Nat.le_of_ble_eq_true rfl⟩ rfl rfl (Nat.le_of_ble_eq_true rfl) ⟨Nat.le_refl 0, Nat.le_refl 0⟩ (fun r M h => ?_)
  exact a_lret dX4_swells_69 ⟨_, rfl, h⟩
set_option maxHeartbeats 4000000 in
set_option maxRecDepth 100000 in
theorem s4_swells_c154 {G : GG} {K76 : Int32 → Int32 → Int32 → Int32 → Int64 → Int32 → MM → Prop} {Q : Int64 → MM → Prop} (hK76 : ∀ (x1 : Int32) (x2 : Int32) (x3 : Int32) (x4 : Int32) (x5 : Int64) (x7 : Int32) (M : MM), K76 x1 x2 x3 x4 x5 x7 M → A4_swells G Q 76 [(0, .ref (gA G 0)), (1, .int x1), (2, .int x2), (3, .int x3), (4, .int x4), (5, .long x5), (7, .int x7)] [] M) : ∀ (x1 : Int32) (x2 : Int32) (x3 : Int32) (x4 : Int32) (x5 : Int64) (x7 : Int32) (M : MM), D4_swells_c154 K76 Q x1 x2 x3 x4 x5 x7 M → A4_swells G Q 154 [(0, .ref (gA G 0)), (1, .int x1), (2, .int x2), (3, .int x3), (4, .int x4), (5, .long x5), (7, .int x7)] [] M := by
  intro x1 x2 x3 x4 x5 x7 M h
  unfold D4_swells_c154 at h
  refine a_iinc (L' := [(7, .int _), (0, .ref _), (1, .int _), (2, .int _), (3, .int _), (4, .int _), (5, .long _)]) dX4_swells_154 6 rfl (show _ + Int32.ofInt (1 : Int) = _ + (1 : Int32) from rfl) (by decide) rfl ?_
  refine a_goto (tgt := 76) dX4_swells_157 (by decide) ?_
  refine a_sub [1, 2, 3, 4, 5, 6, 0] rfl ?_
  exact hK76 _ _ _ _ _ _ _ h
set_option maxHeartbeats 4000000 in
set_option maxRecDepth 100000 in
theorem s4_swells_c125 {G : GG} {K76 : Int32 → Int32 → Int32 → Int32 → Int64 → Int32 → MM → Prop} {Q : Int64 → MM → Prop} (hK76 : ∀ (x1 : Int32) (x2 : Int32) (x3 : Int32) (x4 : Int32) (x5 : Int64) (x7 : Int32) (M : MM), K76 x1 x2 x3 x4 x5 x7 M → A4_swells G Q 76 [(0, .ref (gA G 0)), (1, .int x1), (2, .int x2), (3, .int x3), (4, .int x4), (5, .long x5), (7, .int x7)] [] M) : ∀ (x1 : Int32) (x2 : Int32) (x3 : Int32) (x4 : Int32) (x5 : Int64) (x7 : Int32) (M : MM), D4_swells_c125 K76 Q x1 x2 x3 x4 x5 x7 M → A4_swells G Q 125 [(0, .ref (gA G 0)), (1, .int x1), (2, .int x2), (3, .int x3), (4, .int x4), (5, .long x5), (7, .int x7)] [] M := by
  intro x1 x2 x3 x4 x5 x7 M h
  unfold D4_swells_c125 at h
  refine a_aload_n dX4_swells_125 0 rfl ?_
  refine a_get2 dX4_swells_126 1 (by decide) (tbc _ kF_RX4_16) (fun w h => tbc _ (uW2 w h)) rfl ob_0 rfl ?_
  refine a_iload_n dX4_swells_129 1 rfl ?_
  refine a_callVi (n := 1) [.int _] (C := RX0) (ci := 0) (qc := (RX0, TX0, 9)) (fsF := fl0 G _) ob_6.1 (fun _ => en0 ob_6.2) rfl rfl dX4_swells_130 (s0_stands ob_6 h) (gV tbc kM_RX4_96_X0_stands kI_X0_stands kS_X0_stands kN_RX0 kC_X0_stands) rfl (by decide +kernel) ⟨Nat.le_of_ble_eq_true rfl, Nat.le_of_ble_eq_true rfl⟩ rfl rfl (Nat.le_of_ble_eq_true rfl) ⟨Nat.le_refl 0, Nat.le_refl 0⟩ (fun r M h => ?_)
  refine a_if_eq (tgt := 154) dX4_swells_133 (by decide) (fun c => ?_) (fun c => ?_)
  · have h := h.1 c
    refine a_sub [0, 1, 2, 3, 4, 5, 6] rfl ?_
    exact s4_swells_c154 hK76 _ _ _ _ _ _ _ h
  · have h := h.2 c
    refine a_lload dX4_swells_136 5 rfl ?_
    refine a_iload_n dX4_swells_138 3 rfl ?_
    refine a_iconst (v := 1) dX4_swells_139 (by decide) ?_
    refine a_isub dX4_swells_140 ?_
    refine a_iload_n dX4_swells_141 2 rfl ?_
    refine a_iload dX4_swells_142 6 rfl ?_
    refine a_callSi (n := 1) [.int _] dX4_swells_144 (sJ6_bitCount h) (gS tbc kM_RX4_254_J6_bitCount_0f7a4 kT_J6_bitCount_0f7a4 kN_RJ6 kC_J6_bitCount_0f7a4) rfl (by decide +kernel) ⟨Nat.le_of_ble_eq_true rfl, Nat.le_of_ble_eq_true rfl⟩ rfl rfl (Nat.le_of_ble_eq_true rfl) ⟨Nat.le_refl 0, Nat.le_refl 0⟩ (fun r M h => ?_)
    refine a_isub dX4_swells_147 ?_
    refine a_callSl (n := 2) [.int _, .int _] dX4_swells_148 (s4_power h) (gS tbc kM_RX4_259_X4_power kT_X4_power kN_RX4 kC_X4_power) rfl (by decide +kernel) ⟨Nat.le_of_ble_eq_true rfl, Nat.le_of_ble_eq_true rfl⟩ rfl rfl (Nat.le_of_ble_eq_true rfl) ⟨Nat.le_refl 0, Nat.le_refl 0⟩ (fun r M h => ?_)
    refine a_ladd dX4_swells_151 ?_
    refine a_lstore (i := 5) (L' := [(5, .long _), (0, .ref _), (1, .int _), (2, .int _), (3, .int _), (4, .int _), (7, .int _)]) dX4_swells_152 (by decide) rfl ?_
    refine a_sub [1, 2, 3, 4, 5, 0, 6] rfl ?_
    exact s4_swells_c154 hK76 _ _ _ _ _ _ _ h
set_option maxHeartbeats 4000000 in
set_option maxRecDepth 100000 in
theorem s4_swells_c98 {G : GG} {K76 : Int32 → Int32 → Int32 → Int32 → Int64 → Int32 → MM → Prop} {Q : Int64 → MM → Prop} (hK76 : ∀ (x1 : Int32) (x2 : Int32) (x3 : Int32) (x4 : Int32) (x5 : Int64) (x7 : Int32) (M : MM), K76 x1 x2 x3 x4 x5 x7 M → A4_swells G Q 76 [(0, .ref (gA G 0)), (1, .int x1), (2, .int x2), (3, .int x3), (4, .int x4), (5, .long x5), (7, .int x7)] [] M) : ∀ (n : Nat) (x1 : Int32) (x2 : Int32) (x3 : Int32) (x4 : Int32) (x5 : Int64) (x7 : Int32) (x8 : Int32) (M : MM), D4_swells_c98 K76 Q n x1 x2 x3 x4 x5 x7 x8 M → A4_swells G Q 98 [(0, .ref (gA G 0)), (1, .int x1), (2, .int x2), (3, .int x3), (4, .int x4), (5, .long x5), (7, .int x7), (8, .int x8)] [] M := by
  intro n
  induction n with
  | zero => intro x1 x2 x3 x4 x5 x7 x8 M h; exact h.elim
  | succ n ih =>
    intro x1 x2 x3 x4 x5 x7 x8 M h
    unfold D4_swells_c98 at h
    refine a_iload dX4_swells_98 7 rfl ?_
    refine a_iload_n dX4_swells_100 2 rfl ?_
    refine a_icmp_ge (tgt := 125) dX4_swells_101 (by decide) (fun c => ?_) (fun c => ?_)
    · have h := h.1 c
      refine a_sub [0, 1, 2, 3, 4, 5, 6] rfl ?_
      exact s4_swells_c125 hK76 _ _ _ _ _ _ _ h
    · have h := h.2 c
      refine a_aload_n dX4_swells_104 0 rfl ?_
      refine a_get2 dX4_swells_105 1 (by decide) (tbc _ kF_RX4_16) (fun w h => tbc _ (uW2 w h)) rfl ob_0 rfl ?_
      refine a_iload dX4_swells_108 6 rfl ?_
      refine a_iload dX4_swells_110 7 rfl ?_
      refine a_ishr dX4_swells_112 ?_
      refine a_iconst (v := 1) dX4_swells_113 (by decide) ?_
      refine a_iand dX4_swells_114 ?_
      refine a_iconst (v := 0) dX4_swells_115 (by decide) ?_
      refine a_callVv (n := 2) [.int _, .int _] (C := RX0) (ci := 0) (qc := (RX0, TX0, 9)) (fsF := fl0 G _) ob_6.1 (fun _ => en0 ob_6.2) rfl rfl dX4_swells_116 (s0_anHour ob_6 h) (gV tbc kM_RX4_251_X0_anHour kI_X0_anHour kS_X0_anHour kN_RX0 kC_X0_anHour) rfl (by decide +kernel) ⟨Nat.le_of_ble_eq_true rfl, Nat.le_of_ble_eq_true rfl⟩ rfl rfl (Nat.le_of_ble_eq_true rfl) ⟨Nat.le_refl 0, Nat.le_refl 0⟩ (fun M h => ?_)
      refine a_iinc (L' := [(8, .int _), (0, .ref _), (1, .int _), (2, .int _), (3, .int _), (4, .int _), (5, .long _), (7, .int _)]) dX4_swells_119 7 rfl (show _ + Int32.ofInt (1 : Int) = _ + (1 : Int32) from rfl) (by decide) rfl ?_
      refine a_goto (tgt := 98) dX4_swells_122 (by decide) ?_
      refine a_sub [1, 2, 3, 4, 5, 6, 7, 0] rfl ?_
      exact ih _ _ _ _ _ _ _ _ h
set_option maxHeartbeats 4000000 in
set_option maxRecDepth 100000 in
theorem s4_swells_c160 {G : GG} {Q : Int64 → MM → Prop} : ∀ (x2 : Int32) (x3 : Int32) (x4 : Int32) (x5 : Int64) (M : MM), D4_swells_c160 Q x2 x3 x4 x5 M → A4_swells G Q 160 [(2, .int x2), (3, .int x3), (4, .int x4), (5, .long x5)] [] M := by
  intro x2 x3 x4 x5 M h
  unfold D4_swells_c160 at h
  refine a_lload dX4_swells_160 3 rfl ?_
  refine a_iload_n dX4_swells_162 1 rfl ?_
  refine a_iload_n dX4_swells_163 0 rfl ?_
  refine a_callSl (n := 2) [.int _, .int _] dX4_swells_164 (s4_power h) (gS tbc kM_RX4_259_X4_power kT_X4_power kN_RX4 kC_X4_power) rfl (by decide +kernel) ⟨Nat.le_of_ble_eq_true rfl, Nat.le_of_ble_eq_true rfl⟩ rfl rfl (Nat.le_of_ble_eq_true rfl) ⟨Nat.le_refl 0, Nat.le_refl 0⟩ (fun r M h => ?_)
  refine a_iload dX4_swells_167 2 rfl ?_
  refine a_callSl (n := 3) [.long _, .long _, .int _] dX4_swells_169 (s4_fraction h) (gS tbc kM_RX4_263_X4_fraction kT_X4_fraction kN_RX4 kC_X4_fraction) rfl (by decide +kernel) ⟨Nat.le_of_ble_eq_true rfl, Nat.le_of_ble_eq_true rfl⟩ rfl rfl (Nat.le_of_ble_eq_true rfl) ⟨Nat.le_refl 0, Nat.le_refl 0⟩ (fun r M h => ?_)
  exact a_lret dX4_swells_172 ⟨_, rfl, h⟩
set_option maxHeartbeats 4000000 in
set_option maxRecDepth 100000 in
theorem s4_swells_c76 {G : GG} {Q : Int64 → MM → Prop} : ∀ (n : Nat) (x1 : Int32) (x2 : Int32) (x3 : Int32) (x4 : Int32) (x5 : Int64) (x7 : Int32) (M : MM), D4_swells_c76 Q n x1 x2 x3 x4 x5 x7 M → A4_swells G Q 76 [(0, .ref (gA G 0)), (1, .int x1), (2, .int x2), (3, .int x3), (4, .int x4), (5, .long x5), (7, .int x7)] [] M := by
  intro n
  induction n with
  | zero => intro x1 x2 x3 x4 x5 x7 M h; exact h.elim
  | succ n ih =>
    intro x1 x2 x3 x4 x5 x7 M h
    unfold D4_swells_c76 at h
    refine a_iload dX4_swells_76 6 rfl ?_
    refine a_iconst (v := 1) dX4_swells_78 (by decide) ?_
    refine a_iload_n dX4_swells_79 2 rfl ?_
    refine a_ishl dX4_swells_80 ?_
    refine a_icmp_ge (tgt := 160) dX4_swells_81 (by decide) (fun c => ?_) (fun c => ?_)
    · have h := h.1 c
      refine a_sub [2, 3, 4, 5] rfl ?_
      exact s4_swells_c160 _ _ _ _ _ h
    · have h := h.2 c
      refine a_aload_n dX4_swells_84 0 rfl ?_
      refine a_get2 dX4_swells_85 1 (by decide) (tbc _ kF_RX4_16) (fun w h => tbc _ (uW2 w h)) rfl ob_0 rfl ?_
      refine a_aload_n dX4_swells_88 0 rfl ?_
      refine a_get2 dX4_swells_89 0 (by decide) (tbc _ kF_RX4_10) (fun w h => tbc _ (uW2 w h)) rfl ob_0 rfl ?_
      refine a_callVv (n := 1) [.ref _] (C := RX0) (ci := 0) (qc := (RX0, TX0, 9)) (fsF := fl0 G _) ob_6.1 (fun _ => en0 ob_6.2) rfl rfl dX4_swells_92 (s0_becomes ob_6 ob_1 h) (gV tbc kM_RX4_65_X0_becomes kI_X0_becomes kS_X0_becomes kN_RX0 kC_X0_becomes) rfl (by decide +kernel) ⟨Nat.le_of_ble_eq_true rfl, Nat.le_of_ble_eq_true rfl⟩ rfl rfl (Nat.le_of_ble_eq_true rfl) ⟨Nat.le_refl 0, Nat.le_refl 0⟩ (fun M h => ?_)
      refine a_iconst (v := 0) dX4_swells_95 (by decide) ?_
      refine a_istore (i := 8) (L' := [(8, .int _), (0, .ref _), (1, .int _), (2, .int _), (3, .int _), (4, .int _), (5, .long _), (7, .int _)]) dX4_swells_96 (by decide) rfl ?_
      refine a_sub [1, 2, 3, 4, 5, 6, 7, 0] rfl ?_
      exact s4_swells_c98 ih _ _ _ _ _ _ _ _ _ h
set_option maxHeartbeats 4000000 in
set_option maxRecDepth 100000 in
theorem s4_swells {G : GG} {x1 : Int32} {x2 : Int32} {x3 : Int32} {x4 : Int32} {M : MM} {Q : Int64 → MM → Prop} (h : D4_swells x1 x2 x3 x4 M Q) : CM G yX4_swells (WY yX4_swells cX4_swells 9 (some .long)) 3 72 [.ref (gA G 0), .int x1, .int x2, .int x3, .int x4] M (qL Q) := by
  refine CM.of (cc := cX4_swells) (nL := 9) (ret := (some .long)) (own := RX4) (by decide +kernel) rfl rfl (Nat.le_of_ble_eq_true rfl) ?_
  show A4_swells G Q 0 [(0, .ref (gA G 0)), (1, .int x1), (2, .int x2), (3, .int x3), (4, .int x4)] [] M
  unfold D4_swells at h
  refine a_aload_n dX4_swells_0 0 rfl ?_
  refine a_get2 dX4_swells_1 0 (by decide) (tbc _ kF_RX4_10) (fun w h => tbc _ (uW2 w h)) rfl ob_0 rfl ?_
  refine a_iload_n dX4_swells_4 1 rfl ?_
  refine a_callVi (n := 1) [.int _] (C := RX0) (ci := 0) (qc := (RX0, TX0, 9)) (fsF := fl0 G _) ob_1.1 (fun _ => en0 ob_1.2) rfl rfl dX4_swells_5 (s0_knows ob_1 h) (gV tbc kM_RX4_80_X0_knows kI_X0_knows kS_X0_knows kN_RX0 kC_X0_knows) rfl (by decide +kernel) ⟨Nat.le_of_ble_eq_true rfl, Nat.le_of_ble_eq_true rfl⟩ rfl rfl (Nat.le_of_ble_eq_true rfl) ⟨Nat.le_refl 0, Nat.le_refl 0⟩ (fun r M h => ?_)
  refine a_if_ne (tgt := 17) dX4_swells_8 (by decide) (fun c => ?_) (fun c => ?_)
  · have h := h.1 c
    refine a_iload_n dX4_swells_17 2 rfl ?_
    refine a_if_lt (tgt := 26) dX4_swells_18 (by decide) (fun c => ?_) (fun c => ?_)
    · have h := h.1 c
      refine a_sub [0] rfl ?_
      exact s4_swells_c26 _ h
    · have h := h.2 c
      refine a_iload_n dX4_swells_21 3 rfl ?_
      refine a_iconst (v := 2) dX4_swells_22 (by decide) ?_
      refine a_icmp_ge (tgt := 33) dX4_swells_23 (by decide) (fun c => ?_) (fun c => ?_)
      · have h := h.1 c
        refine a_iload_n dX4_swells_33 2 rfl ?_
        refine a_bipush (v := 7) dX4_swells_34 (by decide) ?_
        refine a_icmp_gt (tgt := 45) dX4_swells_36 (by decide) (fun c => ?_) (fun c => ?_)
        · have h := h.1 c
          refine a_sub [0] rfl ?_
          exact s4_swells_c45 _ h
        · have h := h.2 c
          refine a_iload_n dX4_swells_39 3 rfl ?_
          refine a_bipush (v := 20) dX4_swells_40 (by decide) ?_
          refine a_icmp_le (tgt := 52) dX4_swells_42 (by decide) (fun c => ?_) (fun c => ?_)
          · have h := h.1 c
            refine a_iload dX4_swells_52 4 rfl ?_
            refine a_if_lt (tgt := 63) dX4_swells_54 (by decide) (fun c => ?_) (fun c => ?_)
            · have h := h.1 c
              refine a_sub [0] rfl ?_
              exact s4_swells_c63 _ h
            · have h := h.2 c
              refine a_iload dX4_swells_57 4 rfl ?_
              refine a_iconst (v := 1) dX4_swells_59 (by decide) ?_
              refine a_icmp_le (tgt := 70) dX4_swells_60 (by decide) (fun c => ?_) (fun c => ?_)
              · have h := h.1 c
                refine a_lconst (v := 0) dX4_swells_70 (by decide) ?_
                refine a_lstore (i := 5) (L' := [(5, .long _), (0, .ref _), (1, .int _), (2, .int _), (3, .int _), (4, .int _)]) dX4_swells_71 (by decide) rfl ?_
                refine a_iconst (v := 0) dX4_swells_73 (by decide) ?_
                refine a_istore (i := 7) (L' := [(7, .int _), (5, .long _), (0, .ref _), (1, .int _), (2, .int _), (3, .int _), (4, .int _)]) dX4_swells_74 (by decide) rfl ?_
                refine a_sub [2, 3, 4, 5, 6, 1, 0] rfl ?_
                exact s4_swells_c76 _ _ _ _ _ _ _ _ h
              · have h := h.2 c
                refine a_sub [0] rfl ?_
                exact s4_swells_c63 _ h
          · have h := h.2 c
            refine a_sub [0] rfl ?_
            exact s4_swells_c45 _ h
      · have h := h.2 c
        refine a_sub [0] rfl ?_
        exact s4_swells_c26 _ h
  · have h := h.2 c
    refine a_aload_n dX4_swells_11 0 rfl ?_
    refine a_iconst (v := -1) dX4_swells_12 (by decide) ?_
    refine a_callVl (n := 1) [.int _] (C := RX4) (ci := 2) (qc := (RX4, TX4, 12)) (fsF := fl2 G _) ob_0.1 (fun _ => en2 ob_0.2) rfl rfl dX4_swells_13 (s4_refusedLong h) (gV tbc kM_RX4_247_X4_refusedLong kI_X4_refusedLong kS_X4_refusedLong kN_RX4 kC_X4_refusedLong) rfl (by decide +kernel) ⟨Nat.le_of_ble_eq_true rfl, Nat.le_of_ble_eq_true rfl⟩ rfl rfl (Nat.le_of_ble_eq_true rfl) ⟨Nat.le_refl 0, Nat.le_refl 0⟩ (fun r M h => ?_)
    exact a_lret dX4_swells_16 ⟨_, rfl, h⟩

/-! X4_then -/
theorem dX4_then_0 : decode cX4_then 0 = .ok (.iload_n 1, 1) := by decide +kernel
theorem dX4_then_1 : decode cX4_then 1 = .ok (.iconst 0, 1) := by decide +kernel
theorem dX4_then_2 : decode cX4_then 2 = .ok (.bipush 60, 2) := by decide +kernel
theorem dX4_then_4 : decode cX4_then 4 = .ok (.invokestatic 168, 3) := by decide +kernel
theorem dX4_then_7 : decode cX4_then 7 = .ok (.istore_n 3, 1) := by decide +kernel
theorem dX4_then_8 : decode cX4_then 8 = .ok (.iload_n 3, 1) := by decide +kernel
theorem dX4_then_9 : decode cX4_then 9 = .ok (.ifCond .eq 9, 3) := by decide +kernel
theorem dX4_then_12 : decode cX4_then 12 = .ok (.aload_n 0, 1) := by decide +kernel
theorem dX4_then_13 : decode cX4_then 13 = .ok (.iload_n 3, 1) := by decide +kernel
theorem dX4_then_14 : decode cX4_then 14 = .ok (.invokevirtual 43, 3) := by decide +kernel
theorem dX4_then_17 : decode cX4_then 17 = .ok (.ireturn, 1) := by decide +kernel
theorem dX4_then_18 : decode cX4_then 18 = .ok (.iload_n 2, 1) := by decide +kernel
theorem dX4_then_19 : decode cX4_then 19 = .ok (.ifCond .lt 8, 3) := by decide +kernel
theorem dX4_then_22 : decode cX4_then 22 = .ok (.iload_n 2, 1) := by decide +kernel
theorem dX4_then_23 : decode cX4_then 23 = .ok (.iconst 2, 1) := by decide +kernel
theorem dX4_then_24 : decode cX4_then 24 = .ok (.if_icmp .le 10, 3) := by decide +kernel
theorem dX4_then_27 : decode cX4_then 27 = .ok (.aload_n 0, 1) := by decide +kernel
theorem dX4_then_28 : decode cX4_then 28 = .ok (.bipush (-2), 2) := by decide +kernel
theorem dX4_then_30 : decode cX4_then 30 = .ok (.invokevirtual 43, 3) := by decide +kernel
theorem dX4_then_33 : decode cX4_then 33 = .ok (.ireturn, 1) := by decide +kernel
theorem dX4_then_34 : decode cX4_then 34 = .ok (.aload_n 0, 1) := by decide +kernel
theorem dX4_then_35 : decode cX4_then 35 = .ok (.iload_n 1, 1) := by decide +kernel
theorem dX4_then_36 : decode cX4_then 36 = .ok (.invokevirtual 177, 3) := by decide +kernel
theorem dX4_then_39 : decode cX4_then 39 = .ok (.iload_n 2, 1) := by decide +kernel
theorem dX4_then_40 : decode cX4_then 40 = .ok (.ifCond .ne 11, 3) := by decide +kernel
theorem dX4_then_43 : decode cX4_then 43 = .ok (.aload_n 0, 1) := by decide +kernel
theorem dX4_then_44 : decode cX4_then 44 = .ok (.getfield 16, 3) := by decide +kernel
theorem dX4_then_47 : decode cX4_then 47 = .ok (.getfield 183, 3) := by decide +kernel
theorem dX4_then_50 : decode cX4_then 50 = .ok (.ireturn, 1) := by decide +kernel
theorem dX4_then_51 : decode cX4_then 51 = .ok (.iload_n 2, 1) := by decide +kernel
theorem dX4_then_52 : decode cX4_then 52 = .ok (.iconst 1, 1) := by decide +kernel
theorem dX4_then_53 : decode cX4_then 53 = .ok (.if_icmp .ne 13, 3) := by decide +kernel
theorem dX4_then_56 : decode cX4_then 56 = .ok (.aload_n 0, 1) := by decide +kernel
theorem dX4_then_57 : decode cX4_then 57 = .ok (.getfield 16, 3) := by decide +kernel
theorem dX4_then_60 : decode cX4_then 60 = .ok (.getfield 158, 3) := by decide +kernel
theorem dX4_then_63 : decode cX4_then 63 = .ok (.goto 10, 3) := by decide +kernel
theorem dX4_then_66 : decode cX4_then 66 = .ok (.aload_n 0, 1) := by decide +kernel
theorem dX4_then_67 : decode cX4_then 67 = .ok (.getfield 16, 3) := by decide +kernel
theorem dX4_then_70 : decode cX4_then 70 = .ok (.getfield 146, 3) := by decide +kernel
theorem dX4_then_73 : decode cX4_then 73 = .ok (.ireturn, 1) := by decide +kernel
abbrev A4_then (G : GG) (Q : Int32 → MM → Prop) := AW G E0 (MZ G (qI Q)) (WY yX4_then cX4_then 4 (some .int)) RX4 cX4_then 4 (some .int) ({ frames := 5, cells := 0, slots := 0, locals := 115 } : Room) 0 0
def D4_then_c27 (Q : Int32 → MM → Prop) (M : MM) : Prop := D4_refused (-2 : Int32) M (fun (r7 : Int32) (M8 : MM) => Q r7 M8)
def D4_then (x1 : Int32) (x2 : Int32) (M : MM) (Q : Int32 → MM → Prop) : Prop := D4_outside x1 (0 : Int32) (60 : Int32) M (fun (r1 : Int32) (M2 : MM) => ((r1 = 0 → ((x2 < 0 → D4_then_c27 Q M2) ∧ (¬ x2 < 0 → ((x2 ≤ (2 : Int32) → D4_inMind x1 M2 (fun (M4 : MM) => ((x2 ≠ 0 → ((x2 ≠ (1 : Int32) → Q (M4 6 8) M4) ∧ (x2 = (1 : Int32) → Q (M4 6 7) M4))) ∧ (x2 = 0 → Q (M4 6 5) M4)))) ∧ (¬ x2 ≤ (2 : Int32) → D4_then_c27 Q M2))))) ∧ (¬ r1 = 0 → D4_refused r1 M2 (fun (r5 : Int32) (M6 : MM) => Q r5 M6))))
set_option maxHeartbeats 4000000 in
set_option maxRecDepth 100000 in
theorem s4_then_c27 {G : GG} {Q : Int32 → MM → Prop} : ∀  (M : MM), D4_then_c27 Q M → A4_then G Q 27 [(0, .ref (gA G 0))] [] M := by
  intro  M h
  unfold D4_then_c27 at h
  refine a_aload_n dX4_then_27 0 rfl ?_
  refine a_bipush (v := -2) dX4_then_28 (by decide) ?_
  refine a_callVi (n := 1) [.int _] (C := RX4) (ci := 2) (qc := (RX4, TX4, 12)) (fsF := fl2 G _) ob_0.1 (fun _ => en2 ob_0.2) rfl rfl dX4_then_30 (s4_refused h) (gV tbc kM_RX4_43_X4_refused kI_X4_refused kS_X4_refused kN_RX4 kC_X4_refused) rfl (by decide +kernel) ⟨Nat.le_of_ble_eq_true rfl, Nat.le_of_ble_eq_true rfl⟩ rfl rfl (Nat.le_of_ble_eq_true rfl) ⟨Nat.le_refl 0, Nat.le_refl 0⟩ (fun r M h => ?_)
  exact a_iret dX4_then_33 ⟨_, rfl, h⟩
set_option maxHeartbeats 4000000 in
set_option maxRecDepth 100000 in
theorem s4_then {G : GG} {x1 : Int32} {x2 : Int32} {M : MM} {Q : Int32 → MM → Prop} (h : D4_then x1 x2 M Q) : CM G yX4_then (WY yX4_then cX4_then 4 (some .int)) 5 115 [.ref (gA G 0), .int x1, .int x2] M (qI Q) := by
  refine CM.of (cc := cX4_then) (nL := 4) (ret := (some .int)) (own := RX4) (by decide +kernel) rfl rfl (Nat.le_of_ble_eq_true rfl) ?_
  show A4_then G Q 0 [(0, .ref (gA G 0)), (1, .int x1), (2, .int x2)] [] M
  unfold D4_then at h
  refine a_iload_n dX4_then_0 1 rfl ?_
  refine a_iconst (v := 0) dX4_then_1 (by decide) ?_
  refine a_bipush (v := 60) dX4_then_2 (by decide) ?_
  refine a_callSi (n := 3) [.int _, .int _, .int _] dX4_then_4 (s4_outside h) (gS tbc kM_RX4_168_X4_outside kT_X4_outside kN_RX4 kC_X4_outside) rfl (by decide +kernel) ⟨Nat.le_of_ble_eq_true rfl, Nat.le_of_ble_eq_true rfl⟩ rfl rfl (Nat.le_of_ble_eq_true rfl) ⟨Nat.le_refl 0, Nat.le_refl 0⟩ (fun r M h => ?_)
  refine a_istore_n (i := 3) (L' := [(3, .int _), (0, .ref _), (1, .int _), (2, .int _)]) dX4_then_7 rfl (by decide) rfl ?_
  refine a_iload_n dX4_then_8 0 rfl ?_
  refine a_if_eq (tgt := 18) dX4_then_9 (by decide) (fun c => ?_) (fun c => ?_)
  · have h := h.1 c
    refine a_iload_n dX4_then_18 3 rfl ?_
    refine a_if_lt (tgt := 27) dX4_then_19 (by decide) (fun c => ?_) (fun c => ?_)
    · have h := h.1 c
      refine a_sub [1] rfl ?_
      exact s4_then_c27 _ h
    · have h := h.2 c
      refine a_iload_n dX4_then_22 3 rfl ?_
      refine a_iconst (v := 2) dX4_then_23 (by decide) ?_
      refine a_icmp_le (tgt := 34) dX4_then_24 (by decide) (fun c => ?_) (fun c => ?_)
      · have h := h.1 c
        refine a_aload_n dX4_then_34 1 rfl ?_
        refine a_iload_n dX4_then_35 2 rfl ?_
        refine a_callVv (n := 1) [.int _] (C := RX4) (ci := 2) (qc := (RX4, TX4, 12)) (fsF := fl2 G _) ob_0.1 (fun _ => en2 ob_0.2) rfl rfl dX4_then_36 (s4_inMind h) (gV tbc kM_RX4_177_X4_inMind kI_X4_inMind kS_X4_inMind kN_RX4 kC_X4_inMind) rfl (by decide +kernel) ⟨Nat.le_of_ble_eq_true rfl, Nat.le_of_ble_eq_true rfl⟩ rfl rfl (Nat.le_of_ble_eq_true rfl) ⟨Nat.le_refl 0, Nat.le_refl 0⟩ (fun M h => ?_)
        refine a_iload_n dX4_then_39 3 rfl ?_
        refine a_if_ne (tgt := 51) dX4_then_40 (by decide) (fun c => ?_) (fun c => ?_)
        · have h := h.1 c
          refine a_iload_n dX4_then_51 3 rfl ?_
          refine a_iconst (v := 1) dX4_then_52 (by decide) ?_
          refine a_icmp_ne (tgt := 66) dX4_then_53 (by decide) (fun c => ?_) (fun c => ?_)
          · have h := h.1 c
            refine a_aload_n dX4_then_66 1 rfl ?_
            refine a_get2 dX4_then_67 1 (by decide) (tbc _ kF_RX4_16) (fun w h => tbc _ (uW2 w h)) rfl ob_0 rfl ?_
            refine a_getN0 dX4_then_70 8 (by decide) (fun _ h => h.2.1) (fun w h => tbc _ (uW0 w h)) rfl ob_6 rfl ?_
            exact a_iret dX4_then_73 ⟨_, rfl, h⟩
          · have h := h.2 c
            refine a_aload_n dX4_then_56 1 rfl ?_
            refine a_get2 dX4_then_57 1 (by decide) (tbc _ kF_RX4_16) (fun w h => tbc _ (uW2 w h)) rfl ob_0 rfl ?_
            refine a_getN0 dX4_then_60 7 (by decide) (fun _ h => h.2.2.2.1) (fun w h => tbc _ (uW0 w h)) rfl ob_6 rfl ?_
            refine a_goto (tgt := 73) dX4_then_63 (by decide) ?_
            exact a_iret dX4_then_73 ⟨_, rfl, h⟩
        · have h := h.2 c
          refine a_aload_n dX4_then_43 1 rfl ?_
          refine a_get2 dX4_then_44 1 (by decide) (tbc _ kF_RX4_16) (fun w h => tbc _ (uW2 w h)) rfl ob_0 rfl ?_
          refine a_getN0 dX4_then_47 5 (by decide) (fun _ h => h.2.2.2.2.1) (fun w h => tbc _ (uW0 w h)) rfl ob_6 rfl ?_
          exact a_iret dX4_then_50 ⟨_, rfl, h⟩
      · have h := h.2 c
        refine a_sub [1] rfl ?_
        exact s4_then_c27 _ h
  · have h := h.2 c
    refine a_aload_n dX4_then_12 1 rfl ?_
    refine a_iload_n dX4_then_13 0 rfl ?_
    refine a_callVi (n := 1) [.int _] (C := RX4) (ci := 2) (qc := (RX4, TX4, 12)) (fsF := fl2 G _) ob_0.1 (fun _ => en2 ob_0.2) rfl rfl dX4_then_14 (s4_refused h) (gV tbc kM_RX4_43_X4_refused kI_X4_refused kS_X4_refused kN_RX4 kC_X4_refused) rfl (by decide +kernel) ⟨Nat.le_of_ble_eq_true rfl, Nat.le_of_ble_eq_true rfl⟩ rfl rfl (Nat.le_of_ble_eq_true rfl) ⟨Nat.le_refl 0, Nat.le_refl 0⟩ (fun r M h => ?_)
    exact a_iret dX4_then_17 ⟨_, rfl, h⟩

/-! X4_turrets -/
theorem dX4_turrets_0 : decode cX4_turrets 0 = .ok (.iload_n 1, 1) := by decide +kernel
theorem dX4_turrets_1 : decode cX4_turrets 1 = .ok (.invokestatic 120, 3) := by decide +kernel
theorem dX4_turrets_4 : decode cX4_turrets 4 = .ok (.ifCond .ne 10, 3) := by decide +kernel
theorem dX4_turrets_7 : decode cX4_turrets 7 = .ok (.aload_n 0, 1) := by decide +kernel
theorem dX4_turrets_8 : decode cX4_turrets 8 = .ok (.bipush (-2), 2) := by decide +kernel
theorem dX4_turrets_10 : decode cX4_turrets 10 = .ok (.invokevirtual 43, 3) := by decide +kernel
theorem dX4_turrets_13 : decode cX4_turrets 13 = .ok (.ireturn, 1) := by decide +kernel
theorem dX4_turrets_14 : decode cX4_turrets 14 = .ok (.aload_n 0, 1) := by decide +kernel
theorem dX4_turrets_15 : decode cX4_turrets 15 = .ok (.getfield 10, 3) := by decide +kernel
theorem dX4_turrets_18 : decode cX4_turrets 18 = .ok (.iload_n 1, 1) := by decide +kernel
theorem dX4_turrets_19 : decode cX4_turrets 19 = .ok (.invokevirtual 287, 3) := by decide +kernel
theorem dX4_turrets_22 : decode cX4_turrets 22 = .ok (.ireturn, 1) := by decide +kernel
abbrev A4_turrets (G : GG) (Q : Int32 → MM → Prop) := AW G E0 (MZ G (qI Q)) (WY yX4_turrets cX4_turrets 2 (some .int)) RX4 cX4_turrets 2 (some .int) ({ frames := 2, cells := 0, slots := 0, locals := 44 } : Room) 0 0
def D4_turrets (x1 : Int32) (M : MM) (Q : Int32 → MM → Prop) : Prop := D4_isKind x1 M (fun (r1 : Int32) (M2 : MM) => ((r1 ≠ 0 → D0_standingOf 1 x1 M2 (fun (r3 : Int32) (M4 : MM) => Q r3 M4)) ∧ (r1 = 0 → D4_refused (-2 : Int32) M2 (fun (r5 : Int32) (M6 : MM) => Q r5 M6))))
set_option maxHeartbeats 4000000 in
set_option maxRecDepth 100000 in
theorem s4_turrets {G : GG} {x1 : Int32} {M : MM} {Q : Int32 → MM → Prop} (h : D4_turrets x1 M Q) : CM G yX4_turrets (WY yX4_turrets cX4_turrets 2 (some .int)) 2 44 [.ref (gA G 0), .int x1] M (qI Q) := by
  refine CM.of (cc := cX4_turrets) (nL := 2) (ret := (some .int)) (own := RX4) (by decide +kernel) rfl rfl (Nat.le_of_ble_eq_true rfl) ?_
  show A4_turrets G Q 0 [(0, .ref (gA G 0)), (1, .int x1)] [] M
  unfold D4_turrets at h
  refine a_iload_n dX4_turrets_0 1 rfl ?_
  refine a_callSi (n := 1) [.int _] dX4_turrets_1 (s4_isKind h) (gS tbc kM_RX4_120_X4_isKind kT_X4_isKind kN_RX4 kC_X4_isKind) rfl (by decide +kernel) ⟨Nat.le_of_ble_eq_true rfl, Nat.le_of_ble_eq_true rfl⟩ rfl rfl (Nat.le_of_ble_eq_true rfl) ⟨Nat.le_refl 0, Nat.le_refl 0⟩ (fun r M h => ?_)
  refine a_if_ne (tgt := 14) dX4_turrets_4 (by decide) (fun c => ?_) (fun c => ?_)
  · have h := h.1 c
    refine a_aload_n dX4_turrets_14 0 rfl ?_
    refine a_get2 dX4_turrets_15 0 (by decide) (tbc _ kF_RX4_10) (fun w h => tbc _ (uW2 w h)) rfl ob_0 rfl ?_
    refine a_iload_n dX4_turrets_18 1 rfl ?_
    refine a_callVi (n := 1) [.int _] (C := RX0) (ci := 0) (qc := (RX0, TX0, 9)) (fsF := fl0 G _) ob_1.1 (fun _ => en0 ob_1.2) rfl rfl dX4_turrets_19 (s0_standingOf ob_1 h) (gV tbc kM_RX4_287_X0_standingOf kI_X0_standingOf kS_X0_standingOf kN_RX0 kC_X0_standingOf) rfl (by decide +kernel) ⟨Nat.le_of_ble_eq_true rfl, Nat.le_of_ble_eq_true rfl⟩ rfl rfl (Nat.le_of_ble_eq_true rfl) ⟨Nat.le_refl 0, Nat.le_refl 0⟩ (fun r M h => ?_)
    exact a_iret dX4_turrets_22 ⟨_, rfl, h⟩
  · have h := h.2 c
    refine a_aload_n dX4_turrets_7 0 rfl ?_
    refine a_bipush (v := -2) dX4_turrets_8 (by decide) ?_
    refine a_callVi (n := 1) [.int _] (C := RX4) (ci := 2) (qc := (RX4, TX4, 12)) (fsF := fl2 G _) ob_0.1 (fun _ => en2 ob_0.2) rfl rfl dX4_turrets_10 (s4_refused h) (gV tbc kM_RX4_43_X4_refused kI_X4_refused kS_X4_refused kN_RX4 kC_X4_refused) rfl (by decide +kernel) ⟨Nat.le_of_ble_eq_true rfl, Nat.le_of_ble_eq_true rfl⟩ rfl rfl (Nat.le_of_ble_eq_true rfl) ⟨Nat.le_refl 0, Nat.le_refl 0⟩ (fun r M h => ?_)
    exact a_iret dX4_turrets_13 ⟨_, rfl, h⟩

/-! X4_two -/
theorem dX4_two_0 : decode cX4_two 0 = .ok (.aload_n 0, 1) := by decide +kernel
theorem dX4_two_1 : decode cX4_two 1 = .ok (.getfield 10, 3) := by decide +kernel
theorem dX4_two_4 : decode cX4_two 4 = .ok (.iload_n 1, 1) := by decide +kernel
theorem dX4_two_5 : decode cX4_two 5 = .ok (.invokevirtual 80, 3) := by decide +kernel
theorem dX4_two_8 : decode cX4_two 8 = .ok (.ifCond .eq 19, 3) := by decide +kernel
theorem dX4_two_11 : decode cX4_two 11 = .ok (.aload_n 0, 1) := by decide +kernel
theorem dX4_two_12 : decode cX4_two 12 = .ok (.getfield 10, 3) := by decide +kernel
theorem dX4_two_15 : decode cX4_two 15 = .ok (.iload_n 2, 1) := by decide +kernel
theorem dX4_two_16 : decode cX4_two 16 = .ok (.invokevirtual 80, 3) := by decide +kernel
theorem dX4_two_19 : decode cX4_two 19 = .ok (.ifCond .eq 8, 3) := by decide +kernel
theorem dX4_two_22 : decode cX4_two 22 = .ok (.iload_n 1, 1) := by decide +kernel
theorem dX4_two_23 : decode cX4_two 23 = .ok (.iload_n 2, 1) := by decide +kernel
theorem dX4_two_24 : decode cX4_two 24 = .ok (.if_icmp .ne 9, 3) := by decide +kernel
theorem dX4_two_27 : decode cX4_two 27 = .ok (.aload_n 0, 1) := by decide +kernel
theorem dX4_two_28 : decode cX4_two 28 = .ok (.iconst (-1), 1) := by decide +kernel
theorem dX4_two_29 : decode cX4_two 29 = .ok (.invokevirtual 43, 3) := by decide +kernel
theorem dX4_two_32 : decode cX4_two 32 = .ok (.ireturn, 1) := by decide +kernel
theorem dX4_two_33 : decode cX4_two 33 = .ok (.aload_n 0, 1) := by decide +kernel
theorem dX4_two_34 : decode cX4_two 34 = .ok (.getfield 10, 3) := by decide +kernel
theorem dX4_two_37 : decode cX4_two 37 = .ok (.iload_n 1, 1) := by decide +kernel
theorem dX4_two_38 : decode cX4_two 38 = .ok (.invokevirtual 96, 3) := by decide +kernel
theorem dX4_two_41 : decode cX4_two 41 = .ok (.ifCond .eq 14, 3) := by decide +kernel
theorem dX4_two_44 : decode cX4_two 44 = .ok (.aload_n 0, 1) := by decide +kernel
theorem dX4_two_45 : decode cX4_two 45 = .ok (.getfield 10, 3) := by decide +kernel
theorem dX4_two_48 : decode cX4_two 48 = .ok (.iload_n 2, 1) := by decide +kernel
theorem dX4_two_49 : decode cX4_two 49 = .ok (.invokevirtual 96, 3) := by decide +kernel
theorem dX4_two_52 : decode cX4_two 52 = .ok (.ifCond .ne 10, 3) := by decide +kernel
theorem dX4_two_55 : decode cX4_two 55 = .ok (.aload_n 0, 1) := by decide +kernel
theorem dX4_two_56 : decode cX4_two 56 = .ok (.bipush (-3), 2) := by decide +kernel
theorem dX4_two_58 : decode cX4_two 58 = .ok (.invokevirtual 43, 3) := by decide +kernel
theorem dX4_two_61 : decode cX4_two 61 = .ok (.ireturn, 1) := by decide +kernel
theorem dX4_two_62 : decode cX4_two 62 = .ok (.iconst 0, 1) := by decide +kernel
theorem dX4_two_63 : decode cX4_two 63 = .ok (.istore_n 3, 1) := by decide +kernel
theorem dX4_two_64 : decode cX4_two 64 = .ok (.iload_n 3, 1) := by decide +kernel
theorem dX4_two_65 : decode cX4_two 65 = .ok (.iconst 4, 1) := by decide +kernel
theorem dX4_two_66 : decode cX4_two 66 = .ok (.if_icmp .ge 85, 3) := by decide +kernel
theorem dX4_two_69 : decode cX4_two 69 = .ok (.iload_n 3, 1) := by decide +kernel
theorem dX4_two_70 : decode cX4_two 70 = .ok (.iconst 2, 1) := by decide +kernel
theorem dX4_two_71 : decode cX4_two 71 = .ok (.idiv, 1) := by decide +kernel
theorem dX4_two_72 : decode cX4_two 72 = .ok (.istore 4, 2) := by decide +kernel
theorem dX4_two_74 : decode cX4_two 74 = .ok (.iload_n 3, 1) := by decide +kernel
theorem dX4_two_75 : decode cX4_two 75 = .ok (.iconst 2, 1) := by decide +kernel
theorem dX4_two_76 : decode cX4_two 76 = .ok (.irem, 1) := by decide +kernel
theorem dX4_two_77 : decode cX4_two 77 = .ok (.istore 5, 2) := by decide +kernel
theorem dX4_two_79 : decode cX4_two 79 = .ok (.iload 4, 2) := by decide +kernel
theorem dX4_two_81 : decode cX4_two 81 = .ok (.iload_n 1, 1) := by decide +kernel
theorem dX4_two_82 : decode cX4_two 82 = .ok (.ishl, 1) := by decide +kernel
theorem dX4_two_83 : decode cX4_two 83 = .ok (.iload 5, 2) := by decide +kernel
theorem dX4_two_85 : decode cX4_two 85 = .ok (.iload_n 2, 1) := by decide +kernel
theorem dX4_two_86 : decode cX4_two 86 = .ok (.ishl, 1) := by decide +kernel
theorem dX4_two_87 : decode cX4_two 87 = .ok (.ior, 1) := by decide +kernel
theorem dX4_two_88 : decode cX4_two 88 = .ok (.istore 6, 2) := by decide +kernel
theorem dX4_two_90 : decode cX4_two 90 = .ok (.aload_n 0, 1) := by decide +kernel
theorem dX4_two_91 : decode cX4_two 91 = .ok (.iload 6, 2) := by decide +kernel
theorem dX4_two_93 : decode cX4_two 93 = .ok (.invokevirtual 241, 3) := by decide +kernel
theorem dX4_two_96 : decode cX4_two 96 = .ok (.istore 7, 2) := by decide +kernel
theorem dX4_two_98 : decode cX4_two 98 = .ok (.aload_n 0, 1) := by decide +kernel
theorem dX4_two_99 : decode cX4_two 99 = .ok (.iload 6, 2) := by decide +kernel
theorem dX4_two_101 : decode cX4_two 101 = .ok (.invokevirtual 244, 3) := by decide +kernel
theorem dX4_two_104 : decode cX4_two 104 = .ok (.istore 8, 2) := by decide +kernel
theorem dX4_two_106 : decode cX4_two 106 = .ok (.aload_n 0, 1) := by decide +kernel
theorem dX4_two_107 : decode cX4_two 107 = .ok (.iload 6, 2) := by decide +kernel
theorem dX4_two_109 : decode cX4_two 109 = .ok (.iconst 1, 1) := by decide +kernel
theorem dX4_two_110 : decode cX4_two 110 = .ok (.iload_n 1, 1) := by decide +kernel
theorem dX4_two_111 : decode cX4_two 111 = .ok (.ishl, 1) := by decide +kernel
theorem dX4_two_112 : decode cX4_two 112 = .ok (.ixor, 1) := by decide +kernel
theorem dX4_two_113 : decode cX4_two 113 = .ok (.invokevirtual 241, 3) := by decide +kernel
theorem dX4_two_116 : decode cX4_two 116 = .ok (.iload 7, 2) := by decide +kernel
theorem dX4_two_118 : decode cX4_two 118 = .ok (.if_icmp .gt 27, 3) := by decide +kernel
theorem dX4_two_121 : decode cX4_two 121 = .ok (.aload_n 0, 1) := by decide +kernel
theorem dX4_two_122 : decode cX4_two 122 = .ok (.iload 6, 2) := by decide +kernel
theorem dX4_two_124 : decode cX4_two 124 = .ok (.iconst 1, 1) := by decide +kernel
theorem dX4_two_125 : decode cX4_two 125 = .ok (.iload_n 2, 1) := by decide +kernel
theorem dX4_two_126 : decode cX4_two 126 = .ok (.ishl, 1) := by decide +kernel
theorem dX4_two_127 : decode cX4_two 127 = .ok (.ixor, 1) := by decide +kernel
theorem dX4_two_128 : decode cX4_two 128 = .ok (.invokevirtual 244, 3) := by decide +kernel
theorem dX4_two_131 : decode cX4_two 131 = .ok (.iload 8, 2) := by decide +kernel
theorem dX4_two_133 : decode cX4_two 133 = .ok (.if_icmp .lt 12, 3) := by decide +kernel
theorem dX4_two_136 : decode cX4_two 136 = .ok (.bipush 10, 2) := by decide +kernel
theorem dX4_two_138 : decode cX4_two 138 = .ok (.iload 4, 2) := by decide +kernel
theorem dX4_two_140 : decode cX4_two 140 = .ok (.imul, 1) := by decide +kernel
theorem dX4_two_141 : decode cX4_two 141 = .ok (.iload 5, 2) := by decide +kernel
theorem dX4_two_143 : decode cX4_two 143 = .ok (.iadd, 1) := by decide +kernel
theorem dX4_two_144 : decode cX4_two 144 = .ok (.ireturn, 1) := by decide +kernel
theorem dX4_two_145 : decode cX4_two 145 = .ok (.iinc 3 1, 3) := by decide +kernel
theorem dX4_two_148 : decode cX4_two 148 = .ok (.goto (-84), 3) := by decide +kernel
theorem dX4_two_151 : decode cX4_two 151 = .ok (.bipush (-9), 2) := by decide +kernel
theorem dX4_two_153 : decode cX4_two 153 = .ok (.ireturn, 1) := by decide +kernel
abbrev A4_two (G : GG) (Q : Int32 → MM → Prop) := AW G E0 (MZ G (qI Q)) (WY yX4_two cX4_two 9 (some .int)) RX4 cX4_two 9 (some .int) ({ frames := 5, cells := 0, slots := 0, locals := 115 } : Room) 0 0
def D4_two_c27 (Q : Int32 → MM → Prop) (M : MM) : Prop := D4_refused (-1 : Int32) M (fun (r9 : Int32) (M10 : MM) => Q r9 M10)
def D4_two_c55 (Q : Int32 → MM → Prop) (M : MM) : Prop := D4_refused (-3 : Int32) M (fun (r11 : Int32) (M12 : MM) => Q r11 M12)
def D4_two_c145 (K64 : Int32 → Int32 → Int32 → MM → Prop) (Q : Int32 → MM → Prop) (x1 : Int32) (x2 : Int32) (x3 : Int32) (M : MM) : Prop := (fun v24 : Int32 => K64 x1 x2 v24 M) (x3 + (1 : Int32))
def D4_two_c64 (Q : Int32 → MM → Prop) : Nat → Int32 → Int32 → Int32 → MM → Prop
  | 0, _, _, _, _ => False
  | n + 1, x1, x2, x3, M => (((4 : Int32) ≤ x3 → Q (-9 : Int32) M) ∧ (¬ (4 : Int32) ≤ x3 → (fun v13 : Int32 => (fun v14 : Int32 => (fun v15 : Int32 => D4_purseOf v15 M (fun (r16 : Int32) (M17 : MM) => D4_owedOf v15 M17 (fun (r18 : Int32) (M19 : MM) => D4_purseOf (v15 ^^^ ((1 : Int32) <<< (x1 &&& 31))) M19 (fun (r20 : Int32) (M21 : MM) => ((r16 < r20 → D4_two_c145 (D4_two_c64 Q n) Q x1 x2 x3 M21) ∧ (¬ r16 < r20 → D4_owedOf (v15 ^^^ ((1 : Int32) <<< (x2 &&& 31))) M21 (fun (r22 : Int32) (M23 : MM) => ((r22 < r18 → D4_two_c145 (D4_two_c64 Q n) Q x1 x2 x3 M23) ∧ (¬ r22 < r18 → Q (((10 : Int32) * v13) + v14) M23))))))))) ((v13 <<< (x1 &&& 31)) ||| (v14 <<< (x2 &&& 31)))) (x3 - x3 / (2 : Int32) * (2 : Int32))) (x3 / (2 : Int32))))
def D4_two (x1 : Int32) (x2 : Int32) (M : MM) (Q : Int32 → MM → Prop) : Prop := D0_knows 1 x1 M (fun (r1 : Int32) (M2 : MM) => ((r1 = 0 → D4_two_c27 Q M2) ∧ (¬ r1 = 0 → D0_knows 1 x2 M2 (fun (r3 : Int32) (M4 : MM) => ((r3 = 0 → D4_two_c27 Q M4) ∧ (¬ r3 = 0 → ((x1 ≠ x2 → D0_stands 1 x1 M4 (fun (r5 : Int32) (M6 : MM) => ((r5 = 0 → D4_two_c55 Q M6) ∧ (¬ r5 = 0 → D0_stands 1 x2 M6 (fun (r7 : Int32) (M8 : MM) => ((r7 ≠ 0 → D4_two_c64 Q FU x1 x2 (0 : Int32) M8) ∧ (r7 = 0 → D4_two_c55 Q M8))))))) ∧ (x1 = x2 → D4_two_c27 Q M4))))))))
set_option maxHeartbeats 4000000 in
set_option maxRecDepth 100000 in
theorem s4_two_c27 {G : GG} {Q : Int32 → MM → Prop} : ∀  (M : MM), D4_two_c27 Q M → A4_two G Q 27 [(0, .ref (gA G 0))] [] M := by
  intro  M h
  unfold D4_two_c27 at h
  refine a_aload_n dX4_two_27 0 rfl ?_
  refine a_iconst (v := -1) dX4_two_28 (by decide) ?_
  refine a_callVi (n := 1) [.int _] (C := RX4) (ci := 2) (qc := (RX4, TX4, 12)) (fsF := fl2 G _) ob_0.1 (fun _ => en2 ob_0.2) rfl rfl dX4_two_29 (s4_refused h) (gV tbc kM_RX4_43_X4_refused kI_X4_refused kS_X4_refused kN_RX4 kC_X4_refused) rfl (by decide +kernel) ⟨Nat.le_of_ble_eq_true rfl, Nat.le_of_ble_eq_true rfl⟩ rfl rfl (Nat.le_of_ble_eq_true rfl) ⟨Nat.le_refl 0, Nat.le_refl 0⟩ (fun r M h => ?_)
  exact a_iret dX4_two_32 ⟨_, rfl, h⟩
set_option maxHeartbeats 4000000 in
set_option maxRecDepth 100000 in
theorem s4_two_c55 {G : GG} {Q : Int32 → MM → Prop} : ∀  (M : MM), D4_two_c55 Q M → A4_two G Q 55 [(0, .ref (gA G 0))] [] M := by
  intro  M h
  unfold D4_two_c55 at h
  refine a_aload_n dX4_two_55 0 rfl ?_
  refine a_bipush (v := -3) dX4_two_56 (by decide) ?_
  refine a_callVi (n := 1) [.int _] (C := RX4) (ci := 2) (qc := (RX4, TX4, 12)) (fsF := fl2 G _) ob_0.1 (fun _ => en2 ob_0.2) rfl rfl dX4_two_58 (s4_refused h) (gV tbc kM_RX4_43_X4_refused kI_X4_refused kS_X4_refused kN_RX4 kC_X4_refused) rfl (by decide +kernel) ⟨Nat.le_of_ble_eq_true rfl, Nat.le_of_ble_eq_true rfl⟩ rfl rfl (Nat.le_of_ble_eq_true rfl) ⟨Nat.le_refl 0, Nat.le_refl 0⟩ (fun r M h => ?_)
  exact a_iret dX4_two_61 ⟨_, rfl, h⟩
set_option maxHeartbeats 4000000 in
set_option maxRecDepth 100000 in
theorem s4_two_c145 {G : GG} {K64 : Int32 → Int32 → Int32 → MM → Prop} {Q : Int32 → MM → Prop} (hK64 : ∀ (x1 : Int32) (x2 : Int32) (x3 : Int32) (M : MM), K64 x1 x2 x3 M → A4_two G Q 64 [(0, .ref (gA G 0)), (1, .int x1), (2, .int x2), (3, .int x3)] [] M) : ∀ (x1 : Int32) (x2 : Int32) (x3 : Int32) (M : MM), D4_two_c145 K64 Q x1 x2 x3 M → A4_two G Q 145 [(0, .ref (gA G 0)), (1, .int x1), (2, .int x2), (3, .int x3)] [] M := by
  intro x1 x2 x3 M h
  unfold D4_two_c145 at h
  refine a_iinc (L' := [(3, .int _), (0, .ref _), (1, .int _), (2, .int _)]) dX4_two_145 3 rfl (show _ + Int32.ofInt (1 : Int) = _ + (1 : Int32) from rfl) (by decide) rfl ?_
  refine a_goto (tgt := 64) dX4_two_148 (by decide) ?_
  refine a_sub [1, 2, 3, 0] rfl ?_
  exact hK64 _ _ _ _ h
set_option maxHeartbeats 4000000 in
set_option maxRecDepth 100000 in
theorem s4_two_c64 {G : GG} {Q : Int32 → MM → Prop} : ∀ (n : Nat) (x1 : Int32) (x2 : Int32) (x3 : Int32) (M : MM), D4_two_c64 Q n x1 x2 x3 M → A4_two G Q 64 [(0, .ref (gA G 0)), (1, .int x1), (2, .int x2), (3, .int x3)] [] M := by
  intro n
  induction n with
  | zero => intro x1 x2 x3 M h; exact h.elim
  | succ n ih =>
    intro x1 x2 x3 M h
    unfold D4_two_c64 at h
    refine a_iload_n dX4_two_64 3 rfl ?_
    refine a_iconst (v := 4) dX4_two_65 (by decide) ?_
    refine a_icmp_ge (tgt := 151) dX4_two_66 (by decide) (fun c => ?_) (fun c => ?_)
    · have h := h.1 c
      refine a_bipush (v := -9) dX4_two_151 (by decide) ?_
      exact a_iret dX4_two_153 ⟨_, rfl, h⟩
    · have h := h.2 c
      refine a_iload_n dX4_two_69 3 rfl ?_
      refine a_iconst (v := 2) dX4_two_70 (by decide) ?_
      refine a_idiv dX4_two_71 (by decide) ?_
      refine a_istore (i := 4) (L' := [(4, .int _), (0, .ref _), (1, .int _), (2, .int _), (3, .int _)]) dX4_two_72 (by decide) rfl ?_
      refine a_iload_n dX4_two_74 4 rfl ?_
      refine a_iconst (v := 2) dX4_two_75 (by decide) ?_
      refine a_irem dX4_two_76 (by decide) ?_
      refine a_istore (i := 5) (L' := [(5, .int _), (4, .int _), (0, .ref _), (1, .int _), (2, .int _), (3, .int _)]) dX4_two_77 (by decide) rfl ?_
      refine a_iload dX4_two_79 1 rfl ?_
      refine a_iload_n dX4_two_81 3 rfl ?_
      refine a_ishl dX4_two_82 ?_
      refine a_iload dX4_two_83 0 rfl ?_
      refine a_iload_n dX4_two_85 4 rfl ?_
      refine a_ishl dX4_two_86 ?_
      refine a_ior dX4_two_87 ?_
      refine a_istore (i := 6) (L' := [(6, .int _), (5, .int _), (4, .int _), (0, .ref _), (1, .int _), (2, .int _), (3, .int _)]) dX4_two_88 (by decide) rfl ?_
      refine a_aload_n dX4_two_90 3 rfl ?_
      refine a_iload dX4_two_91 0 rfl ?_
      refine a_callVi (n := 1) [.int _] (C := RX4) (ci := 2) (qc := (RX4, TX4, 12)) (fsF := fl2 G _) ob_0.1 (fun _ => en2 ob_0.2) rfl rfl dX4_two_93 (s4_purseOf h) (gV tbc kM_RX4_241_X4_purseOf kI_X4_purseOf kS_X4_purseOf kN_RX4 kC_X4_purseOf) rfl (by decide +kernel) ⟨Nat.le_of_ble_eq_true rfl, Nat.le_of_ble_eq_true rfl⟩ rfl rfl (Nat.le_of_ble_eq_true rfl) ⟨Nat.le_refl 0, Nat.le_refl 0⟩ (fun r M h => ?_)
      refine a_istore (i := 7) (L' := [(7, .int _), (6, .int _), (5, .int _), (4, .int _), (0, .ref _), (1, .int _), (2, .int _), (3, .int _)]) dX4_two_96 (by decide) rfl ?_
      refine a_aload_n dX4_two_98 4 rfl ?_
      refine a_iload dX4_two_99 1 rfl ?_
      refine a_callVi (n := 1) [.int _] (C := RX4) (ci := 2) (qc := (RX4, TX4, 12)) (fsF := fl2 G _) ob_0.1 (fun _ => en2 ob_0.2) rfl rfl dX4_two_101 (s4_owedOf h) (gV tbc kM_RX4_244_X4_owedOf kI_X4_owedOf kS_X4_owedOf kN_RX4 kC_X4_owedOf) rfl (by decide +kernel) ⟨Nat.le_of_ble_eq_true rfl, Nat.le_of_ble_eq_true rfl⟩ rfl rfl (Nat.le_of_ble_eq_true rfl) ⟨Nat.le_refl 0, Nat.le_refl 0⟩ (fun r M h => ?_)
      refine a_istore (i := 8) (L' := [(8, .int _), (7, .int _), (6, .int _), (5, .int _), (4, .int _), (0, .ref _), (1, .int _), (2, .int _), (3, .int _)]) dX4_two_104 (by decide) rfl ?_
      refine a_aload_n dX4_two_106 5 rfl ?_
      refine a_iload dX4_two_107 2 rfl ?_
      refine a_iconst (v := 1) dX4_two_109 (by decide) ?_
      refine a_iload_n dX4_two_110 6 rfl ?_
      refine a_ishl dX4_two_111 ?_
      refine a_ixor dX4_two_112 ?_
      refine a_callVi (n := 1) [.int _] (C := RX4) (ci := 2) (qc := (RX4, TX4, 12)) (fsF := fl2 G _) ob_0.1 (fun _ => en2 ob_0.2) rfl rfl dX4_two_113 (s4_purseOf h) (gV tbc kM_RX4_241_X4_purseOf kI_X4_purseOf kS_X4_purseOf kN_RX4 kC_X4_purseOf) rfl (by decide +kernel) ⟨Nat.le_of_ble_eq_true rfl, Nat.le_of_ble_eq_true rfl⟩ rfl rfl (Nat.le_of_ble_eq_true rfl) ⟨Nat.le_refl 0, Nat.le_refl 0⟩ (fun r M h => ?_)
      refine a_iload dX4_two_116 1 rfl ?_
      refine a_icmp_gt (tgt := 145) dX4_two_118 (by decide) (fun c => ?_) (fun c => ?_)
      · have h := h.1 c
        refine a_sub [5, 6, 7, 8] rfl ?_
        exact s4_two_c145 ih _ _ _ _ h
      · have h := h.2 c
        refine a_aload_n dX4_two_121 5 rfl ?_
        refine a_iload dX4_two_122 2 rfl ?_
        refine a_iconst (v := 1) dX4_two_124 (by decide) ?_
        refine a_iload_n dX4_two_125 7 rfl ?_
        refine a_ishl dX4_two_126 ?_
        refine a_ixor dX4_two_127 ?_
        refine a_callVi (n := 1) [.int _] (C := RX4) (ci := 2) (qc := (RX4, TX4, 12)) (fsF := fl2 G _) ob_0.1 (fun _ => en2 ob_0.2) rfl rfl dX4_two_128 (s4_owedOf h) (gV tbc kM_RX4_244_X4_owedOf kI_X4_owedOf kS_X4_owedOf kN_RX4 kC_X4_owedOf) rfl (by decide +kernel) ⟨Nat.le_of_ble_eq_true rfl, Nat.le_of_ble_eq_true rfl⟩ rfl rfl (Nat.le_of_ble_eq_true rfl) ⟨Nat.le_refl 0, Nat.le_refl 0⟩ (fun r M h => ?_)
        refine a_iload dX4_two_131 0 rfl ?_
        refine a_icmp_lt (tgt := 145) dX4_two_133 (by decide) (fun c => ?_) (fun c => ?_)
        · have h := h.1 c
          refine a_sub [5, 6, 7, 8] rfl ?_
          exact s4_two_c145 ih _ _ _ _ h
        · have h := h.2 c
          refine a_bipush (v := 10) dX4_two_136 (by decide) ?_
          refine a_iload dX4_two_138 4 rfl ?_
          refine a_imul dX4_two_140 ?_
          refine a_iload dX4_two_141 3 rfl ?_
          refine a_iadd dX4_two_143 ?_
          exact a_iret dX4_two_144 ⟨_, rfl, h⟩
set_option maxHeartbeats 4000000 in
set_option maxRecDepth 100000 in
theorem s4_two {G : GG} {x1 : Int32} {x2 : Int32} {M : MM} {Q : Int32 → MM → Prop} (h : D4_two x1 x2 M Q) : CM G yX4_two (WY yX4_two cX4_two 9 (some .int)) 5 115 [.ref (gA G 0), .int x1, .int x2] M (qI Q) := by
  refine CM.of (cc := cX4_two) (nL := 9) (ret := (some .int)) (own := RX4) (by decide +kernel) rfl rfl (Nat.le_of_ble_eq_true rfl) ?_
  show A4_two G Q 0 [(0, .ref (gA G 0)), (1, .int x1), (2, .int x2)] [] M
  unfold D4_two at h
  refine a_aload_n dX4_two_0 0 rfl ?_
  refine a_get2 dX4_two_1 0 (by decide) (tbc _ kF_RX4_10) (fun w h => tbc _ (uW2 w h)) rfl ob_0 rfl ?_
  refine a_iload_n dX4_two_4 1 rfl ?_
  refine a_callVi (n := 1) [.int _] (C := RX0) (ci := 0) (qc := (RX0, TX0, 9)) (fsF := fl0 G _) ob_1.1 (fun _ => en0 ob_1.2) rfl rfl dX4_two_5 (s0_knows ob_1 h) (gV tbc kM_RX4_80_X0_knows kI_X0_knows kS_X0_knows kN_RX0 kC_X0_knows) rfl (by decide +kernel) ⟨Nat.le_of_ble_eq_true rfl, Nat.le_of_ble_eq_true rfl⟩ rfl rfl (Nat.le_of_ble_eq_true rfl) ⟨Nat.le_refl 0, Nat.le_refl 0⟩ (fun r M h => ?_)
  refine a_if_eq (tgt := 27) dX4_two_8 (by decide) (fun c => ?_) (fun c => ?_)
  · have h := h.1 c
    refine a_sub [0] rfl ?_
    exact s4_two_c27 _ h
  · have h := h.2 c
    refine a_aload_n dX4_two_11 0 rfl ?_
    refine a_get2 dX4_two_12 0 (by decide) (tbc _ kF_RX4_10) (fun w h => tbc _ (uW2 w h)) rfl ob_0 rfl ?_
    refine a_iload_n dX4_two_15 2 rfl ?_
    refine a_callVi (n := 1) [.int _] (C := RX0) (ci := 0) (qc := (RX0, TX0, 9)) (fsF := fl0 G _) ob_1.1 (fun _ => en0 ob_1.2) rfl rfl dX4_two_16 (s0_knows ob_1 h) (gV tbc kM_RX4_80_X0_knows kI_X0_knows kS_X0_knows kN_RX0 kC_X0_knows) rfl (by decide +kernel) ⟨Nat.le_of_ble_eq_true rfl, Nat.le_of_ble_eq_true rfl⟩ rfl rfl (Nat.le_of_ble_eq_true rfl) ⟨Nat.le_refl 0, Nat.le_refl 0⟩ (fun r M h => ?_)
    refine a_if_eq (tgt := 27) dX4_two_19 (by decide) (fun c => ?_) (fun c => ?_)
    · have h := h.1 c
      refine a_sub [0] rfl ?_
      exact s4_two_c27 _ h
    · have h := h.2 c
      refine a_iload_n dX4_two_22 1 rfl ?_
      refine a_iload_n dX4_two_23 2 rfl ?_
      refine a_icmp_ne (tgt := 33) dX4_two_24 (by decide) (fun c => ?_) (fun c => ?_)
      · have h := h.1 c
        refine a_aload_n dX4_two_33 0 rfl ?_
        refine a_get2 dX4_two_34 0 (by decide) (tbc _ kF_RX4_10) (fun w h => tbc _ (uW2 w h)) rfl ob_0 rfl ?_
        refine a_iload_n dX4_two_37 1 rfl ?_
        refine a_callVi (n := 1) [.int _] (C := RX0) (ci := 0) (qc := (RX0, TX0, 9)) (fsF := fl0 G _) ob_1.1 (fun _ => en0 ob_1.2) rfl rfl dX4_two_38 (s0_stands ob_1 h) (gV tbc kM_RX4_96_X0_stands kI_X0_stands kS_X0_stands kN_RX0 kC_X0_stands) rfl (by decide +kernel) ⟨Nat.le_of_ble_eq_true rfl, Nat.le_of_ble_eq_true rfl⟩ rfl rfl (Nat.le_of_ble_eq_true rfl) ⟨Nat.le_refl 0, Nat.le_refl 0⟩ (fun r M h => ?_)
        refine a_if_eq (tgt := 55) dX4_two_41 (by decide) (fun c => ?_) (fun c => ?_)
        · have h := h.1 c
          refine a_sub [0] rfl ?_
          exact s4_two_c55 _ h
        · have h := h.2 c
          refine a_aload_n dX4_two_44 0 rfl ?_
          refine a_get2 dX4_two_45 0 (by decide) (tbc _ kF_RX4_10) (fun w h => tbc _ (uW2 w h)) rfl ob_0 rfl ?_
          refine a_iload_n dX4_two_48 2 rfl ?_
          refine a_callVi (n := 1) [.int _] (C := RX0) (ci := 0) (qc := (RX0, TX0, 9)) (fsF := fl0 G _) ob_1.1 (fun _ => en0 ob_1.2) rfl rfl dX4_two_49 (s0_stands ob_1 h) (gV tbc kM_RX4_96_X0_stands kI_X0_stands kS_X0_stands kN_RX0 kC_X0_stands) rfl (by decide +kernel) ⟨Nat.le_of_ble_eq_true rfl, Nat.le_of_ble_eq_true rfl⟩ rfl rfl (Nat.le_of_ble_eq_true rfl) ⟨Nat.le_refl 0, Nat.le_refl 0⟩ (fun r M h => ?_)
          refine a_if_ne (tgt := 62) dX4_two_52 (by decide) (fun c => ?_) (fun c => ?_)
          · have h := h.1 c
            refine a_iconst (v := 0) dX4_two_62 (by decide) ?_
            refine a_istore_n (i := 3) (L' := [(3, .int _), (0, .ref _), (1, .int _), (2, .int _)]) dX4_two_63 rfl (by decide) rfl ?_
            refine a_sub [1, 2, 3, 0] rfl ?_
            exact s4_two_c64 _ _ _ _ _ h
          · have h := h.2 c
            refine a_sub [0] rfl ?_
            exact s4_two_c55 _ h
      · have h := h.2 c
        refine a_sub [0] rfl ?_
        exact s4_two_c27 _ h

/-! X4_weakest -/
theorem dX4_weakest_0 : decode cX4_weakest 0 = .ok (.iload_n 1, 1) := by decide +kernel
theorem dX4_weakest_1 : decode cX4_weakest 1 = .ok (.tableswitch 71 0 3 #[31, 39, 47, 55], 31) := by decide +kernel
theorem dX4_weakest_32 : decode cX4_weakest 32 = .ok (.aload_n 0, 1) := by decide +kernel
theorem dX4_weakest_33 : decode cX4_weakest 33 = .ok (.getfield 10, 3) := by decide +kernel
theorem dX4_weakest_36 : decode cX4_weakest 36 = .ok (.invokevirtual 267, 3) := by decide +kernel
theorem dX4_weakest_39 : decode cX4_weakest 39 = .ok (.ireturn, 1) := by decide +kernel
theorem dX4_weakest_40 : decode cX4_weakest 40 = .ok (.aload_n 0, 1) := by decide +kernel
theorem dX4_weakest_41 : decode cX4_weakest 41 = .ok (.getfield 10, 3) := by decide +kernel
theorem dX4_weakest_44 : decode cX4_weakest 44 = .ok (.invokevirtual 270, 3) := by decide +kernel
theorem dX4_weakest_47 : decode cX4_weakest 47 = .ok (.ireturn, 1) := by decide +kernel
theorem dX4_weakest_48 : decode cX4_weakest 48 = .ok (.aload_n 0, 1) := by decide +kernel
theorem dX4_weakest_49 : decode cX4_weakest 49 = .ok (.getfield 10, 3) := by decide +kernel
theorem dX4_weakest_52 : decode cX4_weakest 52 = .ok (.invokevirtual 273, 3) := by decide +kernel
theorem dX4_weakest_55 : decode cX4_weakest 55 = .ok (.ireturn, 1) := by decide +kernel
theorem dX4_weakest_56 : decode cX4_weakest 56 = .ok (.aload_n 0, 1) := by decide +kernel
theorem dX4_weakest_57 : decode cX4_weakest 57 = .ok (.getfield 10, 3) := by decide +kernel
theorem dX4_weakest_60 : decode cX4_weakest 60 = .ok (.getfield 123, 3) := by decide +kernel
theorem dX4_weakest_63 : decode cX4_weakest 63 = .ok (.aload_n 0, 1) := by decide +kernel
theorem dX4_weakest_64 : decode cX4_weakest 64 = .ok (.getfield 10, 3) := by decide +kernel
theorem dX4_weakest_67 : decode cX4_weakest 67 = .ok (.invokevirtual 139, 3) := by decide +kernel
theorem dX4_weakest_70 : decode cX4_weakest 70 = .ok (.isub, 1) := by decide +kernel
theorem dX4_weakest_71 : decode cX4_weakest 71 = .ok (.ireturn, 1) := by decide +kernel
theorem dX4_weakest_72 : decode cX4_weakest 72 = .ok (.aload_n 0, 1) := by decide +kernel
theorem dX4_weakest_73 : decode cX4_weakest 73 = .ok (.bipush (-2), 2) := by decide +kernel
theorem dX4_weakest_75 : decode cX4_weakest 75 = .ok (.invokevirtual 43, 3) := by decide +kernel
theorem dX4_weakest_78 : decode cX4_weakest 78 = .ok (.ireturn, 1) := by decide +kernel
abbrev A4_weakest (G : GG) (Q : Int32 → MM → Prop) := AW G E0 (MZ G (qI Q)) (WY yX4_weakest cX4_weakest 2 (some .int)) RX4 cX4_weakest 2 (some .int) ({ frames := 5, cells := 0, slots := 0, locals := 106 } : Room) 0 0
def D4_weakest (x1 : Int32) (M : MM) (Q : Int32 → MM → Prop) : Prop := ((x1 = 0 → D0_leastBeyond 1 M (fun (r1 : Int32) (M2 : MM) => Q r1 M2)) ∧ (¬ x1 = 0 → ((x1 = 1 → D0_aloneWorks 1 M (fun (r3 : Int32) (M4 : MM) => Q r3 M4)) ∧ (¬ x1 = 1 → ((x1 = 2 → D0_highestWork 1 M (fun (r5 : Int32) (M6 : MM) => Q r5 M6)) ∧ (¬ x1 = 2 → ((x1 = 3 → D0_standingWorks 1 M (fun (r7 : Int32) (M8 : MM) => Q ((M 1 4) - r7) M8)) ∧ (¬ x1 = 3 → D4_refused (-2 : Int32) M (fun (r9 : Int32) (M10 : MM) => Q r9 M10)))))))))
set_option maxHeartbeats 4000000 in
set_option maxRecDepth 100000 in
theorem s4_weakest {G : GG} {x1 : Int32} {M : MM} {Q : Int32 → MM → Prop} (h : D4_weakest x1 M Q) : CM G yX4_weakest (WY yX4_weakest cX4_weakest 2 (some .int)) 5 106 [.ref (gA G 0), .int x1] M (qI Q) := by
  refine CM.of (cc := cX4_weakest) (nL := 2) (ret := (some .int)) (own := RX4) (by decide +kernel) rfl rfl (Nat.le_of_ble_eq_true rfl) ?_
  show A4_weakest G Q 0 [(0, .ref (gA G 0)), (1, .int x1)] [] M
  unfold D4_weakest at h
  refine a_iload_n dX4_weakest_0 1 rfl ?_
  refine em_c h (fun c0 h => ?_) (fun c0 h => ?_)
  · refine a_tableIn (off := 31) (tgt := 32) dX4_weakest_1 (by rw [c0]; decide) (by rw [c0]; decide) (by rw [c0]; rfl) (by decide) ?_
    refine a_aload_n dX4_weakest_32 0 rfl ?_
    refine a_get2 dX4_weakest_33 0 (by decide) (tbc _ kF_RX4_10) (fun w h => tbc _ (uW2 w h)) rfl ob_0 rfl ?_
    refine a_callVi (n := 0) [] (C := RX0) (ci := 0) (qc := (RX0, TX0, 9)) (fsF := fl0 G _) ob_1.1 (fun _ => en0 ob_1.2) rfl rfl dX4_weakest_36 (s0_leastBeyond ob_1 h) (gV tbc kM_RX4_267_X0_leastBeyond kI_X0_leastBeyond kS_X0_leastBeyond kN_RX0 kC_X0_leastBeyond) rfl (by decide +kernel) ⟨Nat.le_of_ble_eq_true rfl, Nat.le_of_ble_eq_true rfl⟩ rfl rfl (Nat.le_of_ble_eq_true rfl) ⟨Nat.le_refl 0, Nat.le_refl 0⟩ (fun r M h => ?_)
    exact a_iret dX4_weakest_39 ⟨_, rfl, h⟩
  · refine em_c h (fun c1 h => ?_) (fun c1 h => ?_)
    · refine a_tableIn (off := 39) (tgt := 40) dX4_weakest_1 (by rw [c1]; decide) (by rw [c1]; decide) (by rw [c1]; rfl) (by decide) ?_
      refine a_aload_n dX4_weakest_40 0 rfl ?_
      refine a_get2 dX4_weakest_41 0 (by decide) (tbc _ kF_RX4_10) (fun w h => tbc _ (uW2 w h)) rfl ob_0 rfl ?_
      refine a_callVi (n := 0) [] (C := RX0) (ci := 0) (qc := (RX0, TX0, 9)) (fsF := fl0 G _) ob_1.1 (fun _ => en0 ob_1.2) rfl rfl dX4_weakest_44 (s0_aloneWorks ob_1 h) (gV tbc kM_RX4_270_X0_aloneWorks kI_X0_aloneWorks kS_X0_aloneWorks kN_RX0 kC_X0_aloneWorks) rfl (by decide +kernel) ⟨Nat.le_of_ble_eq_true rfl, Nat.le_of_ble_eq_true rfl⟩ rfl rfl (Nat.le_of_ble_eq_true rfl) ⟨Nat.le_refl 0, Nat.le_refl 0⟩ (fun r M h => ?_)
      exact a_iret dX4_weakest_47 ⟨_, rfl, h⟩
    · refine em_c h (fun c2 h => ?_) (fun c2 h => ?_)
      · refine a_tableIn (off := 47) (tgt := 48) dX4_weakest_1 (by rw [c2]; decide) (by rw [c2]; decide) (by rw [c2]; rfl) (by decide) ?_
        refine a_aload_n dX4_weakest_48 0 rfl ?_
        refine a_get2 dX4_weakest_49 0 (by decide) (tbc _ kF_RX4_10) (fun w h => tbc _ (uW2 w h)) rfl ob_0 rfl ?_
        refine a_callVi (n := 0) [] (C := RX0) (ci := 0) (qc := (RX0, TX0, 9)) (fsF := fl0 G _) ob_1.1 (fun _ => en0 ob_1.2) rfl rfl dX4_weakest_52 (s0_highestWork ob_1 h) (gV tbc kM_RX4_273_X0_highestWork kI_X0_highestWork kS_X0_highestWork kN_RX0 kC_X0_highestWork) rfl (by decide +kernel) ⟨Nat.le_of_ble_eq_true rfl, Nat.le_of_ble_eq_true rfl⟩ rfl rfl (Nat.le_of_ble_eq_true rfl) ⟨Nat.le_refl 0, Nat.le_refl 0⟩ (fun r M h => ?_)
        exact a_iret dX4_weakest_55 ⟨_, rfl, h⟩
      · refine em_c h (fun c3 h => ?_) (fun c3 h => ?_)
        · refine a_tableIn (off := 55) (tgt := 56) dX4_weakest_1 (by rw [c3]; decide) (by rw [c3]; decide) (by rw [c3]; rfl) (by decide) ?_
          refine a_aload_n dX4_weakest_56 0 rfl ?_
          refine a_get2 dX4_weakest_57 0 (by decide) (tbc _ kF_RX4_10) (fun w h => tbc _ (uW2 w h)) rfl ob_0 rfl ?_
          refine a_getN0 dX4_weakest_60 4 (by decide) (fun _ h => h.1) (fun w h => tbc _ (uW0 w h)) rfl ob_1 rfl ?_
          refine a_aload_n dX4_weakest_63 0 rfl ?_
          refine a_get2 dX4_weakest_64 0 (by decide) (tbc _ kF_RX4_10) (fun w h => tbc _ (uW2 w h)) rfl ob_0 rfl ?_
          refine a_callVi (n := 0) [] (C := RX0) (ci := 0) (qc := (RX0, TX0, 9)) (fsF := fl0 G _) ob_1.1 (fun _ => en0 ob_1.2) rfl rfl dX4_weakest_67 (s0_standingWorks ob_1 h) (gV tbc kM_RX4_139_X0_standingWorks kI_X0_standingWorks kS_X0_standingWorks kN_RX0 kC_X0_standingWorks) rfl (by decide +kernel) ⟨Nat.le_of_ble_eq_true rfl, Nat.le_of_ble_eq_true rfl⟩ rfl rfl (Nat.le_of_ble_eq_true rfl) ⟨Nat.le_refl 0, Nat.le_refl 0⟩ (fun r M h => ?_)
          refine a_isub dX4_weakest_70 ?_
          exact a_iret dX4_weakest_71 ⟨_, rfl, h⟩
        · refine a_tableD (tgt := 72) dX4_weakest_1 (by decide) (fun k h1 h2 e => by have hk : k = 0 ∨ k = 1 ∨ k = 2 ∨ k = 3 := (by omega); rcases hk with rfl | rfl | rfl | rfl <;> first | rfl | exact absurd e (ne_ti c0 (by decide)) | exact absurd e (ne_ti c1 (by decide)) | exact absurd e (ne_ti c2 (by decide)) | exact absurd e (ne_ti c3 (by decide))) ?_
          refine a_aload_n dX4_weakest_72 0 rfl ?_
          refine a_bipush (v := -2) dX4_weakest_73 (by decide) ?_
          refine a_callVi (n := 1) [.int _] (C := RX4) (ci := 2) (qc := (RX4, TX4, 12)) (fsF := fl2 G _) ob_0.1 (fun _ => en2 ob_0.2) rfl rfl dX4_weakest_75 (s4_refused h) (gV tbc kM_RX4_43_X4_refused kI_X4_refused kS_X4_refused kN_RX4 kC_X4_refused) rfl (by decide +kernel) ⟨Nat.le_of_ble_eq_true rfl, Nat.le_of_ble_eq_true rfl⟩ rfl rfl (Nat.le_of_ble_eq_true rfl) ⟨Nat.le_refl 0, Nat.le_refl 0⟩ (fun r M h => ?_)
          exact a_iret dX4_weakest_78 ⟨_, rfl, h⟩

/-! X4_wearsAsTold -/
theorem dX4_wearsAsTold_0 : decode cX4_wearsAsTold 0 = .ok (.iconst 0, 1) := by decide +kernel
theorem dX4_wearsAsTold_1 : decode cX4_wearsAsTold 1 = .ok (.istore_n 2, 1) := by decide +kernel
theorem dX4_wearsAsTold_2 : decode cX4_wearsAsTold 2 = .ok (.iload_n 2, 1) := by decide +kernel
theorem dX4_wearsAsTold_3 : decode cX4_wearsAsTold 3 = .ok (.aload_n 0, 1) := by decide +kernel
theorem dX4_wearsAsTold_4 : decode cX4_wearsAsTold 4 = .ok (.getfield 290, 3) := by decide +kernel
theorem dX4_wearsAsTold_7 : decode cX4_wearsAsTold 7 = .ok (.if_icmp .ge 42, 3) := by decide +kernel
theorem dX4_wearsAsTold_10 : decode cX4_wearsAsTold 10 = .ok (.iload_n 2, 1) := by decide +kernel
theorem dX4_wearsAsTold_11 : decode cX4_wearsAsTold 11 = .ok (.bipush 12, 2) := by decide +kernel
theorem dX4_wearsAsTold_13 : decode cX4_wearsAsTold 13 = .ok (.if_icmp .ge 36, 3) := by decide +kernel
theorem dX4_wearsAsTold_16 : decode cX4_wearsAsTold 16 = .ok (.aload_n 0, 1) := by decide +kernel
theorem dX4_wearsAsTold_17 : decode cX4_wearsAsTold 17 = .ok (.getfield 16, 3) := by decide +kernel
theorem dX4_wearsAsTold_20 : decode cX4_wearsAsTold 20 = .ok (.iload_n 1, 1) := by decide +kernel
theorem dX4_wearsAsTold_21 : decode cX4_wearsAsTold 21 = .ok (.invokevirtual 93, 3) := by decide +kernel
theorem dX4_wearsAsTold_24 : decode cX4_wearsAsTold 24 = .ok (.aload_n 0, 1) := by decide +kernel
theorem dX4_wearsAsTold_25 : decode cX4_wearsAsTold 25 = .ok (.getfield 33, 3) := by decide +kernel
theorem dX4_wearsAsTold_28 : decode cX4_wearsAsTold 28 = .ok (.iload_n 2, 1) := by decide +kernel
theorem dX4_wearsAsTold_29 : decode cX4_wearsAsTold 29 = .ok (.iaload, 1) := by decide +kernel
theorem dX4_wearsAsTold_30 : decode cX4_wearsAsTold 30 = .ok (.if_icmp .eq 5, 3) := by decide +kernel
theorem dX4_wearsAsTold_33 : decode cX4_wearsAsTold 33 = .ok (.iconst 0, 1) := by decide +kernel
theorem dX4_wearsAsTold_34 : decode cX4_wearsAsTold 34 = .ok (.ireturn, 1) := by decide +kernel
theorem dX4_wearsAsTold_35 : decode cX4_wearsAsTold 35 = .ok (.aload_n 0, 1) := by decide +kernel
theorem dX4_wearsAsTold_36 : decode cX4_wearsAsTold 36 = .ok (.getfield 16, 3) := by decide +kernel
theorem dX4_wearsAsTold_39 : decode cX4_wearsAsTold 39 = .ok (.iconst 1, 1) := by decide +kernel
theorem dX4_wearsAsTold_40 : decode cX4_wearsAsTold 40 = .ok (.invokevirtual 155, 3) := by decide +kernel
theorem dX4_wearsAsTold_43 : decode cX4_wearsAsTold 43 = .ok (.iinc 2 1, 3) := by decide +kernel
theorem dX4_wearsAsTold_46 : decode cX4_wearsAsTold 46 = .ok (.goto (-44), 3) := by decide +kernel
theorem dX4_wearsAsTold_49 : decode cX4_wearsAsTold 49 = .ok (.iconst 1, 1) := by decide +kernel
theorem dX4_wearsAsTold_50 : decode cX4_wearsAsTold 50 = .ok (.ireturn, 1) := by decide +kernel
abbrev A4_wearsAsTold (G : GG) (Q : Int32 → MM → Prop) := AW G E0 (MZ G (qI Q)) (WY yX4_wearsAsTold cX4_wearsAsTold 3 (some .boolean)) RX4 cX4_wearsAsTold 3 (some .boolean) ({ frames := 4, cells := 0, slots := 0, locals := 94 } : Room) 0 0
def D4_wearsAsTold_c2 (Q : Int32 → MM → Prop) : Nat → Int32 → Int32 → MM → Prop
  | 0, _, _, _ => False
  | n + 1, x1, x2, M => (((M 0 8) ≤ x2 → Q (1 : Int32) M) ∧ (¬ (M 0 8) ≤ x2 → (((12 : Int32) ≤ x2 → Q (1 : Int32) M) ∧ (¬ (12 : Int32) ≤ x2 → D0_wornOf 6 x1 M (fun (r1 : Int32) (M2 : MM) => ib 59 x2 ∧ ((r1 = (M2 59 (ix x2)) → D0_goesOn 6 (1 : Int32) M2 (fun (M4 : MM) => (fun v5 : Int32 => D4_wearsAsTold_c2 Q n x1 v5 M4) (x2 + (1 : Int32)))) ∧ (¬ r1 = (M2 59 (ix x2)) → Q (0 : Int32) M2)))))))
def D4_wearsAsTold (x1 : Int32) (M : MM) (Q : Int32 → MM → Prop) : Prop := D4_wearsAsTold_c2 Q FU x1 (0 : Int32) M
set_option maxHeartbeats 4000000 in
set_option maxRecDepth 100000 in
theorem s4_wearsAsTold_c2 {G : GG} {Q : Int32 → MM → Prop} : ∀ (n : Nat) (x1 : Int32) (x2 : Int32) (M : MM), D4_wearsAsTold_c2 Q n x1 x2 M → A4_wearsAsTold G Q 2 [(0, .ref (gA G 0)), (1, .int x1), (2, .int x2)] [] M := by
  intro n
  induction n with
  | zero => intro x1 x2 M h; exact h.elim
  | succ n ih =>
    intro x1 x2 M h
    unfold D4_wearsAsTold_c2 at h
    refine a_iload_n dX4_wearsAsTold_2 2 rfl ?_
    refine a_aload_n dX4_wearsAsTold_3 0 rfl ?_
    refine a_get2 dX4_wearsAsTold_4 8 (by decide) (tbc _ kF_RX4_290) (fun w h => tbc _ (uW2 w h)) rfl ob_0 rfl ?_
    refine a_icmp_ge (tgt := 49) dX4_wearsAsTold_7 (by decide) (fun c => ?_) (fun c => ?_)
    · have h := h.1 c
      refine a_iconst (v := 1) dX4_wearsAsTold_49 (by decide) ?_
      exact a_zret dX4_wearsAsTold_50 (Or.inr rfl) ⟨_, rfl, h⟩
    · have h := h.2 c
      refine a_iload_n dX4_wearsAsTold_10 2 rfl ?_
      refine a_bipush (v := 12) dX4_wearsAsTold_11 (by decide) ?_
      refine a_icmp_ge (tgt := 49) dX4_wearsAsTold_13 (by decide) (fun c => ?_) (fun c => ?_)
      · have h := h.1 c
        refine a_iconst (v := 1) dX4_wearsAsTold_49 (by decide) ?_
        exact a_zret dX4_wearsAsTold_50 (Or.inr rfl) ⟨_, rfl, h⟩
      · have h := h.2 c
        refine a_aload_n dX4_wearsAsTold_16 0 rfl ?_
        refine a_get2 dX4_wearsAsTold_17 1 (by decide) (tbc _ kF_RX4_16) (fun w h => tbc _ (uW2 w h)) rfl ob_0 rfl ?_
        refine a_iload_n dX4_wearsAsTold_20 1 rfl ?_
        refine a_callVi (n := 1) [.int _] (C := RX0) (ci := 0) (qc := (RX0, TX0, 9)) (fsF := fl0 G _) ob_6.1 (fun _ => en0 ob_6.2) rfl rfl dX4_wearsAsTold_21 (s0_wornOf ob_6 h) (gV tbc kM_RX4_93_X0_wornOf kI_X0_wornOf kS_X0_wornOf kN_RX0 kC_X0_wornOf) rfl (by decide +kernel) ⟨Nat.le_of_ble_eq_true rfl, Nat.le_of_ble_eq_true rfl⟩ rfl rfl (Nat.le_of_ble_eq_true rfl) ⟨Nat.le_refl 0, Nat.le_refl 0⟩ (fun r M h => ?_)
        refine a_aload_n dX4_wearsAsTold_24 0 rfl ?_
        refine a_get2 dX4_wearsAsTold_25 5 (by decide) (tbc _ kF_RX4_33) (fun w h => tbc _ (uW2 w h)) rfl ob_0 rfl ?_
        refine a_iload_n dX4_wearsAsTold_28 2 rfl ?_
        refine a_iald dX4_wearsAsTold_29 h.1 ?_
        have h := h.2
        refine a_icmp_eq (tgt := 35) dX4_wearsAsTold_30 (by decide) (fun c => ?_) (fun c => ?_)
        · have h := h.1 c
          refine a_aload_n dX4_wearsAsTold_35 0 rfl ?_
          refine a_get2 dX4_wearsAsTold_36 1 (by decide) (tbc _ kF_RX4_16) (fun w h => tbc _ (uW2 w h)) rfl ob_0 rfl ?_
          refine a_iconst (v := 1) dX4_wearsAsTold_39 (by decide) ?_
          refine a_callVv (n := 1) [.int _] (C := RX0) (ci := 0) (qc := (RX0, TX0, 9)) (fsF := fl0 G _) ob_6.1 (fun _ => en0 ob_6.2) rfl rfl dX4_wearsAsTold_40 (s0_goesOn ob_6 h) (gV tbc kM_RX4_155_X0_goesOn kI_X0_goesOn kS_X0_goesOn kN_RX0 kC_X0_goesOn) rfl (by decide +kernel) ⟨Nat.le_of_ble_eq_true rfl, Nat.le_of_ble_eq_true rfl⟩ rfl rfl (Nat.le_of_ble_eq_true rfl) ⟨Nat.le_refl 0, Nat.le_refl 0⟩ (fun M h => ?_)
          refine a_iinc (L' := [(2, .int _), (0, .ref _), (1, .int _)]) dX4_wearsAsTold_43 2 rfl (show _ + Int32.ofInt (1 : Int) = _ + (1 : Int32) from rfl) (by decide) rfl ?_
          refine a_goto (tgt := 2) dX4_wearsAsTold_46 (by decide) ?_
          refine a_sub [1, 2, 0] rfl ?_
          exact ih _ _ _ h
        · have h := h.2 c
          refine a_iconst (v := 0) dX4_wearsAsTold_33 (by decide) ?_
          exact a_zret dX4_wearsAsTold_34 (Or.inl rfl) ⟨_, rfl, h⟩
set_option maxHeartbeats 4000000 in
set_option maxRecDepth 100000 in
theorem s4_wearsAsTold {G : GG} {x1 : Int32} {M : MM} {Q : Int32 → MM → Prop} (h : D4_wearsAsTold x1 M Q) : CM G yX4_wearsAsTold (WY yX4_wearsAsTold cX4_wearsAsTold 3 (some .boolean)) 4 94 [.ref (gA G 0), .int x1] M (qI Q) := by
  refine CM.of (cc := cX4_wearsAsTold) (nL := 3) (ret := (some .boolean)) (own := RX4) (by decide +kernel) rfl rfl (Nat.le_of_ble_eq_true rfl) ?_
  show A4_wearsAsTold G Q 0 [(0, .ref (gA G 0)), (1, .int x1)] [] M
  unfold D4_wearsAsTold at h
  refine a_iconst (v := 0) dX4_wearsAsTold_0 (by decide) ?_
  refine a_istore_n (i := 2) (L' := [(2, .int _), (0, .ref _), (1, .int _)]) dX4_wearsAsTold_1 rfl (by decide) rfl ?_
  refine a_sub [1, 2, 0] rfl ?_
  exact s4_wearsAsTold_c2 _ _ _ _ h

/-! X4_wet -/
theorem dX4_wet_0 : decode cX4_wet 0 = .ok (.iload_n 1, 1) := by decide +kernel
theorem dX4_wet_1 : decode cX4_wet 1 = .ok (.iconst 0, 1) := by decide +kernel
theorem dX4_wet_2 : decode cX4_wet 2 = .ok (.bipush 60, 2) := by decide +kernel
theorem dX4_wet_4 : decode cX4_wet 4 = .ok (.invokestatic 168, 3) := by decide +kernel
theorem dX4_wet_7 : decode cX4_wet 7 = .ok (.istore_n 2, 1) := by decide +kernel
theorem dX4_wet_8 : decode cX4_wet 8 = .ok (.iload_n 2, 1) := by decide +kernel
theorem dX4_wet_9 : decode cX4_wet 9 = .ok (.ifCond .eq 9, 3) := by decide +kernel
theorem dX4_wet_12 : decode cX4_wet 12 = .ok (.aload_n 0, 1) := by decide +kernel
theorem dX4_wet_13 : decode cX4_wet 13 = .ok (.iload_n 2, 1) := by decide +kernel
theorem dX4_wet_14 : decode cX4_wet 14 = .ok (.invokevirtual 43, 3) := by decide +kernel
theorem dX4_wet_17 : decode cX4_wet 17 = .ok (.ireturn, 1) := by decide +kernel
theorem dX4_wet_18 : decode cX4_wet 18 = .ok (.aload_n 0, 1) := by decide +kernel
theorem dX4_wet_19 : decode cX4_wet 19 = .ok (.iload_n 1, 1) := by decide +kernel
theorem dX4_wet_20 : decode cX4_wet 20 = .ok (.invokevirtual 177, 3) := by decide +kernel
theorem dX4_wet_23 : decode cX4_wet 23 = .ok (.aload_n 0, 1) := by decide +kernel
theorem dX4_wet_24 : decode cX4_wet 24 = .ok (.getfield 16, 3) := by decide +kernel
theorem dX4_wet_27 : decode cX4_wet 27 = .ok (.invokevirtual 180, 3) := by decide +kernel
theorem dX4_wet_30 : decode cX4_wet 30 = .ok (.ireturn, 1) := by decide +kernel
abbrev A4_wet (G : GG) (Q : Int32 → MM → Prop) := AW G E0 (MZ G (qI Q)) (WY yX4_wet cX4_wet 3 (some .int)) RX4 cX4_wet 3 (some .int) ({ frames := 5, cells := 0, slots := 0, locals := 115 } : Room) 0 0
def D4_wet (x1 : Int32) (M : MM) (Q : Int32 → MM → Prop) : Prop := D4_outside x1 (0 : Int32) (60 : Int32) M (fun (r1 : Int32) (M2 : MM) => ((r1 = 0 → D4_inMind x1 M2 (fun (M4 : MM) => D0_wetNow 6 M4 (fun (r5 : Int32) (M6 : MM) => Q r5 M6))) ∧ (¬ r1 = 0 → D4_refused r1 M2 (fun (r7 : Int32) (M8 : MM) => Q r7 M8))))
set_option maxHeartbeats 4000000 in
set_option maxRecDepth 100000 in
theorem s4_wet {G : GG} {x1 : Int32} {M : MM} {Q : Int32 → MM → Prop} (h : D4_wet x1 M Q) : CM G yX4_wet (WY yX4_wet cX4_wet 3 (some .int)) 5 115 [.ref (gA G 0), .int x1] M (qI Q) := by
  refine CM.of (cc := cX4_wet) (nL := 3) (ret := (some .int)) (own := RX4) (by decide +kernel) rfl rfl (Nat.le_of_ble_eq_true rfl) ?_
  show A4_wet G Q 0 [(0, .ref (gA G 0)), (1, .int x1)] [] M
  unfold D4_wet at h
  refine a_iload_n dX4_wet_0 1 rfl ?_
  refine a_iconst (v := 0) dX4_wet_1 (by decide) ?_
  refine a_bipush (v := 60) dX4_wet_2 (by decide) ?_
  refine a_callSi (n := 3) [.int _, .int _, .int _] dX4_wet_4 (s4_outside h) (gS tbc kM_RX4_168_X4_outside kT_X4_outside kN_RX4 kC_X4_outside) rfl (by decide +kernel) ⟨Nat.le_of_ble_eq_true rfl, Nat.le_of_ble_eq_true rfl⟩ rfl rfl (Nat.le_of_ble_eq_true rfl) ⟨Nat.le_refl 0, Nat.le_refl 0⟩ (fun r M h => ?_)
  refine a_istore_n (i := 2) (L' := [(2, .int _), (0, .ref _), (1, .int _)]) dX4_wet_7 rfl (by decide) rfl ?_
  refine a_iload_n dX4_wet_8 0 rfl ?_
  refine a_if_eq (tgt := 18) dX4_wet_9 (by decide) (fun c => ?_) (fun c => ?_)
  · have h := h.1 c
    refine a_aload_n dX4_wet_18 1 rfl ?_
    refine a_iload_n dX4_wet_19 2 rfl ?_
    refine a_callVv (n := 1) [.int _] (C := RX4) (ci := 2) (qc := (RX4, TX4, 12)) (fsF := fl2 G _) ob_0.1 (fun _ => en2 ob_0.2) rfl rfl dX4_wet_20 (s4_inMind h) (gV tbc kM_RX4_177_X4_inMind kI_X4_inMind kS_X4_inMind kN_RX4 kC_X4_inMind) rfl (by decide +kernel) ⟨Nat.le_of_ble_eq_true rfl, Nat.le_of_ble_eq_true rfl⟩ rfl rfl (Nat.le_of_ble_eq_true rfl) ⟨Nat.le_refl 0, Nat.le_refl 0⟩ (fun M h => ?_)
    refine a_aload_n dX4_wet_23 1 rfl ?_
    refine a_get2 dX4_wet_24 1 (by decide) (tbc _ kF_RX4_16) (fun w h => tbc _ (uW2 w h)) rfl ob_0 rfl ?_
    refine a_callVi (n := 0) [] (C := RX0) (ci := 0) (qc := (RX0, TX0, 9)) (fsF := fl0 G _) ob_6.1 (fun _ => en0 ob_6.2) rfl rfl dX4_wet_27 (s0_wetNow ob_6 h) (gV tbc kM_RX4_180_X0_wetNow kI_X0_wetNow kS_X0_wetNow kN_RX0 kC_X0_wetNow) rfl (by decide +kernel) ⟨Nat.le_of_ble_eq_true rfl, Nat.le_of_ble_eq_true rfl⟩ rfl rfl (Nat.le_of_ble_eq_true rfl) ⟨Nat.le_refl 0, Nat.le_refl 0⟩ (fun r M h => ?_)
    exact a_iret dX4_wet_30 ⟨_, rfl, h⟩
  · have h := h.2 c
    refine a_aload_n dX4_wet_12 1 rfl ?_
    refine a_iload_n dX4_wet_13 0 rfl ?_
    refine a_callVi (n := 1) [.int _] (C := RX4) (ci := 2) (qc := (RX4, TX4, 12)) (fsF := fl2 G _) ob_0.1 (fun _ => en2 ob_0.2) rfl rfl dX4_wet_14 (s4_refused h) (gV tbc kM_RX4_43_X4_refused kI_X4_refused kS_X4_refused kN_RX4 kC_X4_refused) rfl (by decide +kernel) ⟨Nat.le_of_ble_eq_true rfl, Nat.le_of_ble_eq_true rfl⟩ rfl rfl (Nat.le_of_ble_eq_true rfl) ⟨Nat.le_refl 0, Nat.le_refl 0⟩ (fun r M h => ?_)
    exact a_iret dX4_wet_17 ⟨_, rfl, h⟩

/-! X4_whatWas -/
theorem dX4_whatWas_0 : decode cX4_whatWas 0 = .ok (.aload_n 0, 1) := by decide +kernel
theorem dX4_whatWas_1 : decode cX4_whatWas 1 = .ok (.getfield 10, 3) := by decide +kernel
theorem dX4_whatWas_4 : decode cX4_whatWas 4 = .ok (.iload_n 1, 1) := by decide +kernel
theorem dX4_whatWas_5 : decode cX4_whatWas 5 = .ok (.invokevirtual 80, 3) := by decide +kernel
theorem dX4_whatWas_8 : decode cX4_whatWas 8 = .ok (.ifCond .ne 9, 3) := by decide +kernel
theorem dX4_whatWas_11 : decode cX4_whatWas 11 = .ok (.aload_n 0, 1) := by decide +kernel
theorem dX4_whatWas_12 : decode cX4_whatWas 12 = .ok (.iconst (-1), 1) := by decide +kernel
theorem dX4_whatWas_13 : decode cX4_whatWas 13 = .ok (.invokevirtual 43, 3) := by decide +kernel
theorem dX4_whatWas_16 : decode cX4_whatWas 16 = .ok (.ireturn, 1) := by decide +kernel
theorem dX4_whatWas_17 : decode cX4_whatWas 17 = .ok (.iload_n 2, 1) := by decide +kernel
theorem dX4_whatWas_18 : decode cX4_whatWas 18 = .ok (.ifCond .lt 8, 3) := by decide +kernel
theorem dX4_whatWas_21 : decode cX4_whatWas 21 = .ok (.iload_n 2, 1) := by decide +kernel
theorem dX4_whatWas_22 : decode cX4_whatWas 22 = .ok (.iconst 1, 1) := by decide +kernel
theorem dX4_whatWas_23 : decode cX4_whatWas 23 = .ok (.if_icmp .le 10, 3) := by decide +kernel
theorem dX4_whatWas_26 : decode cX4_whatWas 26 = .ok (.aload_n 0, 1) := by decide +kernel
theorem dX4_whatWas_27 : decode cX4_whatWas 27 = .ok (.bipush (-2), 2) := by decide +kernel
theorem dX4_whatWas_29 : decode cX4_whatWas 29 = .ok (.invokevirtual 43, 3) := by decide +kernel
theorem dX4_whatWas_32 : decode cX4_whatWas 32 = .ok (.ireturn, 1) := by decide +kernel
theorem dX4_whatWas_33 : decode cX4_whatWas 33 = .ok (.iconst 0, 1) := by decide +kernel
theorem dX4_whatWas_34 : decode cX4_whatWas 34 = .ok (.istore_n 3, 1) := by decide +kernel
theorem dX4_whatWas_35 : decode cX4_whatWas 35 = .ok (.iload_n 2, 1) := by decide +kernel
theorem dX4_whatWas_36 : decode cX4_whatWas 36 = .ok (.ifCond .ne 8, 3) := by decide +kernel
theorem dX4_whatWas_39 : decode cX4_whatWas 39 = .ok (.bipush 6, 2) := by decide +kernel
theorem dX4_whatWas_41 : decode cX4_whatWas 41 = .ok (.goto 5, 3) := by decide +kernel
theorem dX4_whatWas_44 : decode cX4_whatWas 44 = .ok (.bipush 10, 2) := by decide +kernel
theorem dX4_whatWas_46 : decode cX4_whatWas 46 = .ok (.istore 4, 2) := by decide +kernel
theorem dX4_whatWas_48 : decode cX4_whatWas 48 = .ok (.iconst 0, 1) := by decide +kernel
theorem dX4_whatWas_49 : decode cX4_whatWas 49 = .ok (.istore 5, 2) := by decide +kernel
theorem dX4_whatWas_51 : decode cX4_whatWas 51 = .ok (.iload 5, 2) := by decide +kernel
theorem dX4_whatWas_53 : decode cX4_whatWas 53 = .ok (.iload 4, 2) := by decide +kernel
theorem dX4_whatWas_55 : decode cX4_whatWas 55 = .ok (.if_icmp .ge 89, 3) := by decide +kernel
theorem dX4_whatWas_58 : decode cX4_whatWas 58 = .ok (.aload_n 0, 1) := by decide +kernel
theorem dX4_whatWas_59 : decode cX4_whatWas 59 = .ok (.getfield 16, 3) := by decide +kernel
theorem dX4_whatWas_62 : decode cX4_whatWas 62 = .ok (.aload_n 0, 1) := by decide +kernel
theorem dX4_whatWas_63 : decode cX4_whatWas 63 = .ok (.getfield 10, 3) := by decide +kernel
theorem dX4_whatWas_66 : decode cX4_whatWas 66 = .ok (.invokevirtual 65, 3) := by decide +kernel
theorem dX4_whatWas_69 : decode cX4_whatWas 69 = .ok (.iload_n 2, 1) := by decide +kernel
theorem dX4_whatWas_70 : decode cX4_whatWas 70 = .ok (.ifCond .ne 8, 3) := by decide +kernel
theorem dX4_whatWas_73 : decode cX4_whatWas 73 = .ok (.iload 5, 2) := by decide +kernel
theorem dX4_whatWas_75 : decode cX4_whatWas 75 = .ok (.goto 11, 3) := by decide +kernel
theorem dX4_whatWas_78 : decode cX4_whatWas 78 = .ok (.aload_n 0, 1) := by decide +kernel
theorem dX4_whatWas_79 : decode cX4_whatWas 79 = .ok (.getfield 10, 3) := by decide +kernel
theorem dX4_whatWas_82 : decode cX4_whatWas 82 = .ok (.iload_n 1, 1) := by decide +kernel
theorem dX4_whatWas_83 : decode cX4_whatWas 83 = .ok (.invokevirtual 84, 3) := by decide +kernel
theorem dX4_whatWas_86 : decode cX4_whatWas 86 = .ok (.istore 6, 2) := by decide +kernel
theorem dX4_whatWas_88 : decode cX4_whatWas 88 = .ok (.iload_n 2, 1) := by decide +kernel
theorem dX4_whatWas_89 : decode cX4_whatWas 89 = .ok (.ifCond .ne 14, 3) := by decide +kernel
theorem dX4_whatWas_92 : decode cX4_whatWas 92 = .ok (.aload_n 0, 1) := by decide +kernel
theorem dX4_whatWas_93 : decode cX4_whatWas 93 = .ok (.getfield 10, 3) := by decide +kernel
theorem dX4_whatWas_96 : decode cX4_whatWas 96 = .ok (.iload_n 1, 1) := by decide +kernel
theorem dX4_whatWas_97 : decode cX4_whatWas 97 = .ok (.invokevirtual 87, 3) := by decide +kernel
theorem dX4_whatWas_100 : decode cX4_whatWas 100 = .ok (.goto 5, 3) := by decide +kernel
theorem dX4_whatWas_103 : decode cX4_whatWas 103 = .ok (.iload 5, 2) := by decide +kernel
theorem dX4_whatWas_105 : decode cX4_whatWas 105 = .ok (.istore 7, 2) := by decide +kernel
theorem dX4_whatWas_107 : decode cX4_whatWas 107 = .ok (.aload_n 0, 1) := by decide +kernel
theorem dX4_whatWas_108 : decode cX4_whatWas 108 = .ok (.getfield 16, 3) := by decide +kernel
theorem dX4_whatWas_111 : decode cX4_whatWas 111 = .ok (.iload_n 1, 1) := by decide +kernel
theorem dX4_whatWas_112 : decode cX4_whatWas 112 = .ok (.iload 6, 2) := by decide +kernel
theorem dX4_whatWas_114 : decode cX4_whatWas 114 = .ok (.iload 7, 2) := by decide +kernel
theorem dX4_whatWas_116 : decode cX4_whatWas 116 = .ok (.invokevirtual 232, 3) := by decide +kernel
theorem dX4_whatWas_119 : decode cX4_whatWas 119 = .ok (.iload_n 3, 1) := by decide +kernel
theorem dX4_whatWas_120 : decode cX4_whatWas 120 = .ok (.aload_n 0, 1) := by decide +kernel
theorem dX4_whatWas_121 : decode cX4_whatWas 121 = .ok (.iload_n 1, 1) := by decide +kernel
theorem dX4_whatWas_122 : decode cX4_whatWas 122 = .ok (.invokevirtual 235, 3) := by decide +kernel
theorem dX4_whatWas_125 : decode cX4_whatWas 125 = .ok (.ifCond .eq 10, 3) := by decide +kernel
theorem dX4_whatWas_128 : decode cX4_whatWas 128 = .ok (.iconst 1, 1) := by decide +kernel
theorem dX4_whatWas_129 : decode cX4_whatWas 129 = .ok (.iload 5, 2) := by decide +kernel
theorem dX4_whatWas_131 : decode cX4_whatWas 131 = .ok (.ishl, 1) := by decide +kernel
theorem dX4_whatWas_132 : decode cX4_whatWas 132 = .ok (.goto 4, 3) := by decide +kernel
theorem dX4_whatWas_135 : decode cX4_whatWas 135 = .ok (.iconst 0, 1) := by decide +kernel
theorem dX4_whatWas_136 : decode cX4_whatWas 136 = .ok (.ior, 1) := by decide +kernel
theorem dX4_whatWas_137 : decode cX4_whatWas 137 = .ok (.istore_n 3, 1) := by decide +kernel
theorem dX4_whatWas_138 : decode cX4_whatWas 138 = .ok (.iinc 5 1, 3) := by decide +kernel
theorem dX4_whatWas_141 : decode cX4_whatWas 141 = .ok (.goto (-90), 3) := by decide +kernel
theorem dX4_whatWas_144 : decode cX4_whatWas 144 = .ok (.iload_n 3, 1) := by decide +kernel
theorem dX4_whatWas_145 : decode cX4_whatWas 145 = .ok (.ireturn, 1) := by decide +kernel
abbrev A4_whatWas (G : GG) (Q : Int32 → MM → Prop) := AW G E0 (MZ G (qI Q)) (WY yX4_whatWas cX4_whatWas 8 (some .int)) RX4 cX4_whatWas 8 (some .int) ({ frames := 5, cells := 0, slots := 0, locals := 116 } : Room) 0 0
def D4_whatWas_c26 (Q : Int32 → MM → Prop) (M : MM) : Prop := D4_refused (-2 : Int32) M (fun (r5 : Int32) (M6 : MM) => Q r5 M6)
def D4_whatWas_c136 (K51 : Int32 → Int32 → Int32 → Int32 → Int32 → MM → Prop) (Q : Int32 → MM → Prop) (x1 : Int32) (x2 : Int32) (x4 : Int32) (x5 : Int32) (s0 : Int32) (s1 : Int32) (M : MM) : Prop := (fun v17 : Int32 => (fun v18 : Int32 => K51 x1 x2 v17 x4 v18 M) (x5 + (1 : Int32))) (s1 ||| s0)
def D4_whatWas_c105 (K51 : Int32 → Int32 → Int32 → Int32 → Int32 → MM → Prop) (Q : Int32 → MM → Prop) (x1 : Int32) (x2 : Int32) (x3 : Int32) (x4 : Int32) (x5 : Int32) (x6 : Int32) (s0 : Int32) (M : MM) : Prop := D0_takesFor 6 x1 x6 s0 M (fun (M14 : MM) => D4_wearsAsTold x1 M14 (fun (r15 : Int32) (M16 : MM) => ((r15 = 0 → D4_whatWas_c136 K51 Q x1 x2 x4 x5 (0 : Int32) x3 M16) ∧ (¬ r15 = 0 → D4_whatWas_c136 K51 Q x1 x2 x4 x5 ((1 : Int32) <<< (x5 &&& 31)) x3 M16))))
def D4_whatWas_c86 (K51 : Int32 → Int32 → Int32 → Int32 → Int32 → MM → Prop) (Q : Int32 → MM → Prop) (x1 : Int32) (x2 : Int32) (x3 : Int32) (x4 : Int32) (x5 : Int32) (s0 : Int32) (M : MM) : Prop := ((x2 ≠ 0 → D4_whatWas_c105 K51 Q x1 x2 x3 x4 x5 s0 x5 M) ∧ (x2 = 0 → D0_figureOf 1 x1 M (fun (r11 : Int32) (M12 : MM) => D4_whatWas_c105 K51 Q x1 x2 x3 x4 x5 s0 r11 M12)))
def D4_whatWas_c51 (Q : Int32 → MM → Prop) : Nat → Int32 → Int32 → Int32 → Int32 → Int32 → MM → Prop
  | 0, _, _, _, _, _, _ => False
  | n + 1, x1, x2, x3, x4, x5, M => ((x4 ≤ x5 → Q x3 M) ∧ (¬ x4 ≤ x5 → D0_becomes 6 1 M (fun (M8 : MM) => ((x2 ≠ 0 → D0_kindOf 1 x1 M8 (fun (r9 : Int32) (M10 : MM) => D4_whatWas_c86 (D4_whatWas_c51 Q n) Q x1 x2 x3 x4 x5 r9 M10)) ∧ (x2 = 0 → D4_whatWas_c86 (D4_whatWas_c51 Q n) Q x1 x2 x3 x4 x5 x5 M8)))))
def D4_whatWas_c46 (Q : Int32 → MM → Prop) (x1 : Int32) (x2 : Int32) (x3 : Int32) (s0 : Int32) (M : MM) : Prop := D4_whatWas_c51 Q FU x1 x2 x3 s0 (0 : Int32) M
def D4_whatWas (x1 : Int32) (x2 : Int32) (M : MM) (Q : Int32 → MM → Prop) : Prop := D0_knows 1 x1 M (fun (r1 : Int32) (M2 : MM) => ((r1 ≠ 0 → ((x2 < 0 → D4_whatWas_c26 Q M2) ∧ (¬ x2 < 0 → ((x2 ≤ (1 : Int32) → ((x2 ≠ 0 → D4_whatWas_c46 Q x1 x2 (0 : Int32) (10 : Int32) M2) ∧ (x2 = 0 → D4_whatWas_c46 Q x1 x2 (0 : Int32) (6 : Int32) M2))) ∧ (¬ x2 ≤ (1 : Int32) → D4_whatWas_c26 Q M2))))) ∧ (r1 = 0 → D4_refused (-1 : Int32) M2 (fun (r3 : Int32) (M4 : MM) => Q r3 M4))))
set_option maxHeartbeats 4000000 in
set_option maxRecDepth 100000 in
theorem s4_whatWas_c26 {G : GG} {Q : Int32 → MM → Prop} : ∀  (M : MM), D4_whatWas_c26 Q M → A4_whatWas G Q 26 [(0, .ref (gA G 0))] [] M := by
  intro  M h
  unfold D4_whatWas_c26 at h
  refine a_aload_n dX4_whatWas_26 0 rfl ?_
  refine a_bipush (v := -2) dX4_whatWas_27 (by decide) ?_
  refine a_callVi (n := 1) [.int _] (C := RX4) (ci := 2) (qc := (RX4, TX4, 12)) (fsF := fl2 G _) ob_0.1 (fun _ => en2 ob_0.2) rfl rfl dX4_whatWas_29 (s4_refused h) (gV tbc kM_RX4_43_X4_refused kI_X4_refused kS_X4_refused kN_RX4 kC_X4_refused) rfl (by decide +kernel) ⟨Nat.le_of_ble_eq_true rfl, Nat.le_of_ble_eq_true rfl⟩ rfl rfl (Nat.le_of_ble_eq_true rfl) ⟨Nat.le_refl 0, Nat.le_refl 0⟩ (fun r M h => ?_)
  exact a_iret dX4_whatWas_32 ⟨_, rfl, h⟩
set_option maxHeartbeats 4000000 in
set_option maxRecDepth 100000 in
theorem s4_whatWas_c136 {G : GG} {K51 : Int32 → Int32 → Int32 → Int32 → Int32 → MM → Prop} {Q : Int32 → MM → Prop} (hK51 : ∀ (x1 : Int32) (x2 : Int32) (x3 : Int32) (x4 : Int32) (x5 : Int32) (M : MM), K51 x1 x2 x3 x4 x5 M → A4_whatWas G Q 51 [(0, .ref (gA G 0)), (1, .int x1), (2, .int x2), (3, .int x3), (4, .int x4), (5, .int x5)] [] M) : ∀ (x1 : Int32) (x2 : Int32) (x4 : Int32) (x5 : Int32) (s0 : Int32) (s1 : Int32) (M : MM), D4_whatWas_c136 K51 Q x1 x2 x4 x5 s0 s1 M → A4_whatWas G Q 136 [(0, .ref (gA G 0)), (1, .int x1), (2, .int x2), (4, .int x4), (5, .int x5)] [.int s0, .int s1] M := by
  intro x1 x2 x4 x5 s0 s1 M h
  unfold D4_whatWas_c136 at h
  refine a_ior dX4_whatWas_136 ?_
  refine a_istore_n (i := 3) (L' := [(3, .int _), (0, .ref _), (1, .int _), (2, .int _), (4, .int _), (5, .int _)]) dX4_whatWas_137 rfl (by decide) rfl ?_
  refine a_iinc (L' := [(5, .int _), (3, .int _), (0, .ref _), (1, .int _), (2, .int _), (4, .int _)]) dX4_whatWas_138 5 rfl (show _ + Int32.ofInt (1 : Int) = _ + (1 : Int32) from rfl) (by decide) rfl ?_
  refine a_goto (tgt := 51) dX4_whatWas_141 (by decide) ?_
  refine a_sub [2, 3, 4, 1, 5, 0] rfl ?_
  exact hK51 _ _ _ _ _ _ h
set_option maxHeartbeats 4000000 in
set_option maxRecDepth 100000 in
theorem s4_whatWas_c105 {G : GG} {K51 : Int32 → Int32 → Int32 → Int32 → Int32 → MM → Prop} {Q : Int32 → MM → Prop} (hK51 : ∀ (x1 : Int32) (x2 : Int32) (x3 : Int32) (x4 : Int32) (x5 : Int32) (M : MM), K51 x1 x2 x3 x4 x5 M → A4_whatWas G Q 51 [(0, .ref (gA G 0)), (1, .int x1), (2, .int x2), (3, .int x3), (4, .int x4), (5, .int x5)] [] M) : ∀ (x1 : Int32) (x2 : Int32) (x3 : Int32) (x4 : Int32) (x5 : Int32) (x6 : Int32) (s0 : Int32) (M : MM), D4_whatWas_c105 K51 Q x1 x2 x3 x4 x5 x6 s0 M → A4_whatWas G Q 105 [(0, .ref (gA G 0)), (1, .int x1), (2, .int x2), (3, .int x3), (4, .int x4), (5, .int x5), (6, .int x6)] [.int s0] M := by
  intro x1 x2 x3 x4 x5 x6 s0 M h
  unfold D4_whatWas_c105 at h
  refine a_istore (i := 7) (L' := [(7, .int _), (0, .ref _), (1, .int _), (2, .int _), (3, .int _), (4, .int _), (5, .int _), (6, .int _)]) dX4_whatWas_105 (by decide) rfl ?_
  refine a_aload_n dX4_whatWas_107 1 rfl ?_
  refine a_get2 dX4_whatWas_108 1 (by decide) (tbc _ kF_RX4_16) (fun w h => tbc _ (uW2 w h)) rfl ob_0 rfl ?_
  refine a_iload_n dX4_whatWas_111 2 rfl ?_
  refine a_iload dX4_whatWas_112 7 rfl ?_
  refine a_iload dX4_whatWas_114 0 rfl ?_
  refine a_callVv (n := 3) [.int _, .int _, .int _] (C := RX0) (ci := 0) (qc := (RX0, TX0, 9)) (fsF := fl0 G _) ob_6.1 (fun _ => en0 ob_6.2) rfl rfl dX4_whatWas_116 (s0_takesFor ob_6 h) (gV tbc kM_RX4_232_X0_takesFor kI_X0_takesFor kS_X0_takesFor kN_RX0 kC_X0_takesFor) rfl (by decide +kernel) ⟨Nat.le_of_ble_eq_true rfl, Nat.le_of_ble_eq_true rfl⟩ rfl rfl (Nat.le_of_ble_eq_true rfl) ⟨Nat.le_refl 0, Nat.le_refl 0⟩ (fun M h => ?_)
  refine a_iload_n dX4_whatWas_119 4 rfl ?_
  refine a_aload_n dX4_whatWas_120 1 rfl ?_
  refine a_iload_n dX4_whatWas_121 2 rfl ?_
  refine a_callVi (n := 1) [.int _] (C := RX4) (ci := 2) (qc := (RX4, TX4, 12)) (fsF := fl2 G _) ob_0.1 (fun _ => en2 ob_0.2) rfl rfl dX4_whatWas_122 (s4_wearsAsTold h) (gV tbc kM_RX4_235_X4_wearsAsTold kI_X4_wearsAsTold kS_X4_wearsAsTold kN_RX4 kC_X4_wearsAsTold) rfl (by decide +kernel) ⟨Nat.le_of_ble_eq_true rfl, Nat.le_of_ble_eq_true rfl⟩ rfl rfl (Nat.le_of_ble_eq_true rfl) ⟨Nat.le_refl 0, Nat.le_refl 0⟩ (fun r M h => ?_)
  refine a_if_eq (tgt := 135) dX4_whatWas_125 (by decide) (fun c => ?_) (fun c => ?_)
  · have h := h.1 c
    refine a_iconst (v := 0) dX4_whatWas_135 (by decide) ?_
    refine a_sub [1, 2, 3, 5, 6] rfl ?_
    exact s4_whatWas_c136 hK51 _ _ _ _ _ _ _ h
  · have h := h.2 c
    refine a_iconst (v := 1) dX4_whatWas_128 (by decide) ?_
    refine a_iload dX4_whatWas_129 6 rfl ?_
    refine a_ishl dX4_whatWas_131 ?_
    refine a_goto (tgt := 136) dX4_whatWas_132 (by decide) ?_
    refine a_sub [1, 2, 3, 5, 6] rfl ?_
    exact s4_whatWas_c136 hK51 _ _ _ _ _ _ _ h
set_option maxHeartbeats 4000000 in
set_option maxRecDepth 100000 in
theorem s4_whatWas_c86 {G : GG} {K51 : Int32 → Int32 → Int32 → Int32 → Int32 → MM → Prop} {Q : Int32 → MM → Prop} (hK51 : ∀ (x1 : Int32) (x2 : Int32) (x3 : Int32) (x4 : Int32) (x5 : Int32) (M : MM), K51 x1 x2 x3 x4 x5 M → A4_whatWas G Q 51 [(0, .ref (gA G 0)), (1, .int x1), (2, .int x2), (3, .int x3), (4, .int x4), (5, .int x5)] [] M) : ∀ (x1 : Int32) (x2 : Int32) (x3 : Int32) (x4 : Int32) (x5 : Int32) (s0 : Int32) (M : MM), D4_whatWas_c86 K51 Q x1 x2 x3 x4 x5 s0 M → A4_whatWas G Q 86 [(0, .ref (gA G 0)), (1, .int x1), (2, .int x2), (3, .int x3), (4, .int x4), (5, .int x5)] [.int s0] M := by
  intro x1 x2 x3 x4 x5 s0 M h
  unfold D4_whatWas_c86 at h
  refine a_istore (i := 6) (L' := [(6, .int _), (0, .ref _), (1, .int _), (2, .int _), (3, .int _), (4, .int _), (5, .int _)]) dX4_whatWas_86 (by decide) rfl ?_
  refine a_iload_n dX4_whatWas_88 3 rfl ?_
  refine a_if_ne (tgt := 103) dX4_whatWas_89 (by decide) (fun c => ?_) (fun c => ?_)
  · have h := h.1 c
    refine a_iload dX4_whatWas_103 6 rfl ?_
    refine a_sub [1, 2, 3, 4, 5, 6, 0] rfl ?_
    exact s4_whatWas_c105 hK51 _ _ _ _ _ _ _ _ h
  · have h := h.2 c
    refine a_aload_n dX4_whatWas_92 1 rfl ?_
    refine a_get2 dX4_whatWas_93 0 (by decide) (tbc _ kF_RX4_10) (fun w h => tbc _ (uW2 w h)) rfl ob_0 rfl ?_
    refine a_iload_n dX4_whatWas_96 2 rfl ?_
    refine a_callVi (n := 1) [.int _] (C := RX0) (ci := 0) (qc := (RX0, TX0, 9)) (fsF := fl0 G _) ob_1.1 (fun _ => en0 ob_1.2) rfl rfl dX4_whatWas_97 (s0_figureOf ob_1 h) (gV tbc kM_RX4_87_X0_figureOf kI_X0_figureOf kS_X0_figureOf kN_RX0 kC_X0_figureOf) rfl (by decide +kernel) ⟨Nat.le_of_ble_eq_true rfl, Nat.le_of_ble_eq_true rfl⟩ rfl rfl (Nat.le_of_ble_eq_true rfl) ⟨Nat.le_refl 0, Nat.le_refl 0⟩ (fun r M h => ?_)
    refine a_goto (tgt := 105) dX4_whatWas_100 (by decide) ?_
    refine a_sub [1, 2, 3, 4, 5, 6, 0] rfl ?_
    exact s4_whatWas_c105 hK51 _ _ _ _ _ _ _ _ h
set_option maxHeartbeats 4000000 in
set_option maxRecDepth 100000 in
theorem s4_whatWas_c51 {G : GG} {Q : Int32 → MM → Prop} : ∀ (n : Nat) (x1 : Int32) (x2 : Int32) (x3 : Int32) (x4 : Int32) (x5 : Int32) (M : MM), D4_whatWas_c51 Q n x1 x2 x3 x4 x5 M → A4_whatWas G Q 51 [(0, .ref (gA G 0)), (1, .int x1), (2, .int x2), (3, .int x3), (4, .int x4), (5, .int x5)] [] M := by
  intro n
  induction n with
  | zero => intro x1 x2 x3 x4 x5 M h; exact h.elim
  | succ n ih =>
    intro x1 x2 x3 x4 x5 M h
    unfold D4_whatWas_c51 at h
    refine a_iload dX4_whatWas_51 5 rfl ?_
    refine a_iload dX4_whatWas_53 4 rfl ?_
    refine a_icmp_ge (tgt := 144) dX4_whatWas_55 (by decide) (fun c => ?_) (fun c => ?_)
    · have h := h.1 c
      refine a_iload_n dX4_whatWas_144 3 rfl ?_
      exact a_iret dX4_whatWas_145 ⟨_, rfl, h⟩
    · have h := h.2 c
      refine a_aload_n dX4_whatWas_58 0 rfl ?_
      refine a_get2 dX4_whatWas_59 1 (by decide) (tbc _ kF_RX4_16) (fun w h => tbc _ (uW2 w h)) rfl ob_0 rfl ?_
      refine a_aload_n dX4_whatWas_62 0 rfl ?_
      refine a_get2 dX4_whatWas_63 0 (by decide) (tbc _ kF_RX4_10) (fun w h => tbc _ (uW2 w h)) rfl ob_0 rfl ?_
      refine a_callVv (n := 1) [.ref _] (C := RX0) (ci := 0) (qc := (RX0, TX0, 9)) (fsF := fl0 G _) ob_6.1 (fun _ => en0 ob_6.2) rfl rfl dX4_whatWas_66 (s0_becomes ob_6 ob_1 h) (gV tbc kM_RX4_65_X0_becomes kI_X0_becomes kS_X0_becomes kN_RX0 kC_X0_becomes) rfl (by decide +kernel) ⟨Nat.le_of_ble_eq_true rfl, Nat.le_of_ble_eq_true rfl⟩ rfl rfl (Nat.le_of_ble_eq_true rfl) ⟨Nat.le_refl 0, Nat.le_refl 0⟩ (fun M h => ?_)
      refine a_iload_n dX4_whatWas_69 2 rfl ?_
      refine a_if_ne (tgt := 78) dX4_whatWas_70 (by decide) (fun c => ?_) (fun c => ?_)
      · have h := h.1 c
        refine a_aload_n dX4_whatWas_78 0 rfl ?_
        refine a_get2 dX4_whatWas_79 0 (by decide) (tbc _ kF_RX4_10) (fun w h => tbc _ (uW2 w h)) rfl ob_0 rfl ?_
        refine a_iload_n dX4_whatWas_82 1 rfl ?_
        refine a_callVi (n := 1) [.int _] (C := RX0) (ci := 0) (qc := (RX0, TX0, 9)) (fsF := fl0 G _) ob_1.1 (fun _ => en0 ob_1.2) rfl rfl dX4_whatWas_83 (s0_kindOf ob_1 h) (gV tbc kM_RX4_84_X0_kindOf kI_X0_kindOf kS_X0_kindOf kN_RX0 kC_X0_kindOf) rfl (by decide +kernel) ⟨Nat.le_of_ble_eq_true rfl, Nat.le_of_ble_eq_true rfl⟩ rfl rfl (Nat.le_of_ble_eq_true rfl) ⟨Nat.le_refl 0, Nat.le_refl 0⟩ (fun r M h => ?_)
        refine a_sub [0, 1, 2, 3, 4, 5] rfl ?_
        exact s4_whatWas_c86 ih _ _ _ _ _ _ _ h
      · have h := h.2 c
        refine a_iload dX4_whatWas_73 5 rfl ?_
        refine a_goto (tgt := 86) dX4_whatWas_75 (by decide) ?_
        refine a_sub [0, 1, 2, 3, 4, 5] rfl ?_
        exact s4_whatWas_c86 ih _ _ _ _ _ _ _ h
set_option maxHeartbeats 4000000 in
set_option maxRecDepth 100000 in
theorem s4_whatWas_c46 {G : GG} {Q : Int32 → MM → Prop} : ∀ (x1 : Int32) (x2 : Int32) (x3 : Int32) (s0 : Int32) (M : MM), D4_whatWas_c46 Q x1 x2 x3 s0 M → A4_whatWas G Q 46 [(0, .ref (gA G 0)), (1, .int x1), (2, .int x2), (3, .int x3)] [.int s0] M := by
  intro x1 x2 x3 s0 M h
  unfold D4_whatWas_c46 at h
  refine a_istore (i := 4) (L' := [(4, .int _), (0, .ref _), (1, .int _), (2, .int _), (3, .int _)]) dX4_whatWas_46 (by decide) rfl ?_
  refine a_iconst (v := 0) dX4_whatWas_48 (by decide) ?_
  refine a_istore (i := 5) (L' := [(5, .int _), (4, .int _), (0, .ref _), (1, .int _), (2, .int _), (3, .int _)]) dX4_whatWas_49 (by decide) rfl ?_
  refine a_sub [2, 3, 4, 5, 1, 0] rfl ?_
  exact s4_whatWas_c51 _ _ _ _ _ _ _ h
set_option maxHeartbeats 4000000 in
set_option maxRecDepth 100000 in
theorem s4_whatWas {G : GG} {x1 : Int32} {x2 : Int32} {M : MM} {Q : Int32 → MM → Prop} (h : D4_whatWas x1 x2 M Q) : CM G yX4_whatWas (WY yX4_whatWas cX4_whatWas 8 (some .int)) 5 116 [.ref (gA G 0), .int x1, .int x2] M (qI Q) := by
  refine CM.of (cc := cX4_whatWas) (nL := 8) (ret := (some .int)) (own := RX4) (by decide +kernel) rfl rfl (Nat.le_of_ble_eq_true rfl) ?_
  show A4_whatWas G Q 0 [(0, .ref (gA G 0)), (1, .int x1), (2, .int x2)] [] M
  unfold D4_whatWas at h
  refine a_aload_n dX4_whatWas_0 0 rfl ?_
  refine a_get2 dX4_whatWas_1 0 (by decide) (tbc _ kF_RX4_10) (fun w h => tbc _ (uW2 w h)) rfl ob_0 rfl ?_
  refine a_iload_n dX4_whatWas_4 1 rfl ?_
  refine a_callVi (n := 1) [.int _] (C := RX0) (ci := 0) (qc := (RX0, TX0, 9)) (fsF := fl0 G _) ob_1.1 (fun _ => en0 ob_1.2) rfl rfl dX4_whatWas_5 (s0_knows ob_1 h) (gV tbc kM_RX4_80_X0_knows kI_X0_knows kS_X0_knows kN_RX0 kC_X0_knows) rfl (by decide +kernel) ⟨Nat.le_of_ble_eq_true rfl, Nat.le_of_ble_eq_true rfl⟩ rfl rfl (Nat.le_of_ble_eq_true rfl) ⟨Nat.le_refl 0, Nat.le_refl 0⟩ (fun r M h => ?_)
  refine a_if_ne (tgt := 17) dX4_whatWas_8 (by decide) (fun c => ?_) (fun c => ?_)
  · have h := h.1 c
    refine a_iload_n dX4_whatWas_17 2 rfl ?_
    refine a_if_lt (tgt := 26) dX4_whatWas_18 (by decide) (fun c => ?_) (fun c => ?_)
    · have h := h.1 c
      refine a_sub [0] rfl ?_
      exact s4_whatWas_c26 _ h
    · have h := h.2 c
      refine a_iload_n dX4_whatWas_21 2 rfl ?_
      refine a_iconst (v := 1) dX4_whatWas_22 (by decide) ?_
      refine a_icmp_le (tgt := 33) dX4_whatWas_23 (by decide) (fun c => ?_) (fun c => ?_)
      · have h := h.1 c
        refine a_iconst (v := 0) dX4_whatWas_33 (by decide) ?_
        refine a_istore_n (i := 3) (L' := [(3, .int _), (0, .ref _), (1, .int _), (2, .int _)]) dX4_whatWas_34 rfl (by decide) rfl ?_
        refine a_iload_n dX4_whatWas_35 3 rfl ?_
        refine a_if_ne (tgt := 44) dX4_whatWas_36 (by decide) (fun c => ?_) (fun c => ?_)
        · have h := h.1 c
          refine a_bipush (v := 10) dX4_whatWas_44 (by decide) ?_
          refine a_sub [1, 2, 3, 0] rfl ?_
          exact s4_whatWas_c46 _ _ _ _ _ h
        · have h := h.2 c
          refine a_bipush (v := 6) dX4_whatWas_39 (by decide) ?_
          refine a_goto (tgt := 46) dX4_whatWas_41 (by decide) ?_
          refine a_sub [1, 2, 3, 0] rfl ?_
          exact s4_whatWas_c46 _ _ _ _ _ h
      · have h := h.2 c
        refine a_sub [0] rfl ?_
        exact s4_whatWas_c26 _ h
  · have h := h.2 c
    refine a_aload_n dX4_whatWas_11 0 rfl ?_
    refine a_iconst (v := -1) dX4_whatWas_12 (by decide) ?_
    refine a_callVi (n := 1) [.int _] (C := RX4) (ci := 2) (qc := (RX4, TX4, 12)) (fsF := fl2 G _) ob_0.1 (fun _ => en2 ob_0.2) rfl rfl dX4_whatWas_13 (s4_refused h) (gV tbc kM_RX4_43_X4_refused kI_X4_refused kS_X4_refused kN_RX4 kC_X4_refused) rfl (by decide +kernel) ⟨Nat.le_of_ble_eq_true rfl, Nat.le_of_ble_eq_true rfl⟩ rfl rfl (Nat.le_of_ble_eq_true rfl) ⟨Nat.le_refl 0, Nat.le_refl 0⟩ (fun r M h => ?_)
    exact a_iret dX4_whatWas_16 ⟨_, rfl, h⟩

/-! X4_work -/
theorem dX4_work_0 : decode cX4_work 0 = .ok (.iload_n 1, 1) := by decide +kernel
theorem dX4_work_1 : decode cX4_work 1 = .ok (.invokestatic 120, 3) := by decide +kernel
theorem dX4_work_4 : decode cX4_work 4 = .ok (.ifCond .ne 10, 3) := by decide +kernel
theorem dX4_work_7 : decode cX4_work 7 = .ok (.aload_n 0, 1) := by decide +kernel
theorem dX4_work_8 : decode cX4_work 8 = .ok (.bipush (-2), 2) := by decide +kernel
theorem dX4_work_10 : decode cX4_work 10 = .ok (.invokevirtual 43, 3) := by decide +kernel
theorem dX4_work_13 : decode cX4_work 13 = .ok (.ireturn, 1) := by decide +kernel
theorem dX4_work_14 : decode cX4_work 14 = .ok (.iload_n 2, 1) := by decide +kernel
theorem dX4_work_15 : decode cX4_work 15 = .ok (.ifCond .ge 10, 3) := by decide +kernel
theorem dX4_work_18 : decode cX4_work 18 = .ok (.aload_n 0, 1) := by decide +kernel
theorem dX4_work_19 : decode cX4_work 19 = .ok (.bipush (-4), 2) := by decide +kernel
theorem dX4_work_21 : decode cX4_work 21 = .ok (.invokevirtual 43, 3) := by decide +kernel
theorem dX4_work_24 : decode cX4_work 24 = .ok (.ireturn, 1) := by decide +kernel
theorem dX4_work_25 : decode cX4_work 25 = .ok (.iload_n 2, 1) := by decide +kernel
theorem dX4_work_26 : decode cX4_work 26 = .ok (.bipush 10, 2) := by decide +kernel
theorem dX4_work_28 : decode cX4_work 28 = .ok (.if_icmp .ge 15, 3) := by decide +kernel
theorem dX4_work_31 : decode cX4_work 31 = .ok (.aload_n 0, 1) := by decide +kernel
theorem dX4_work_32 : decode cX4_work 32 = .ok (.getfield 10, 3) := by decide +kernel
theorem dX4_work_35 : decode cX4_work 35 = .ok (.getfield 123, 3) := by decide +kernel
theorem dX4_work_38 : decode cX4_work 38 = .ok (.bipush 8, 2) := by decide +kernel
theorem dX4_work_40 : decode cX4_work 40 = .ok (.if_icmp .lt 10, 3) := by decide +kernel
theorem dX4_work_43 : decode cX4_work 43 = .ok (.aload_n 0, 1) := by decide +kernel
theorem dX4_work_44 : decode cX4_work 44 = .ok (.bipush (-6), 2) := by decide +kernel
theorem dX4_work_46 : decode cX4_work 46 = .ok (.invokevirtual 43, 3) := by decide +kernel
theorem dX4_work_49 : decode cX4_work 49 = .ok (.ireturn, 1) := by decide +kernel
theorem dX4_work_50 : decode cX4_work 50 = .ok (.iload_n 3, 1) := by decide +kernel
theorem dX4_work_51 : decode cX4_work 51 = .ok (.invokestatic 114, 3) := by decide +kernel
theorem dX4_work_54 : decode cX4_work 54 = .ok (.ifCond .ne 9, 3) := by decide +kernel
theorem dX4_work_57 : decode cX4_work 57 = .ok (.aload_n 0, 1) := by decide +kernel
theorem dX4_work_58 : decode cX4_work 58 = .ok (.iconst (-1), 1) := by decide +kernel
theorem dX4_work_59 : decode cX4_work 59 = .ok (.invokevirtual 43, 3) := by decide +kernel
theorem dX4_work_62 : decode cX4_work 62 = .ok (.ireturn, 1) := by decide +kernel
theorem dX4_work_63 : decode cX4_work 63 = .ok (.aload_n 0, 1) := by decide +kernel
theorem dX4_work_64 : decode cX4_work 64 = .ok (.getfield 10, 3) := by decide +kernel
theorem dX4_work_67 : decode cX4_work 67 = .ok (.iload_n 3, 1) := by decide +kernel
theorem dX4_work_68 : decode cX4_work 68 = .ok (.invokevirtual 117, 3) := by decide +kernel
theorem dX4_work_71 : decode cX4_work 71 = .ok (.ifCond .lt 10, 3) := by decide +kernel
theorem dX4_work_74 : decode cX4_work 74 = .ok (.aload_n 0, 1) := by decide +kernel
theorem dX4_work_75 : decode cX4_work 75 = .ok (.bipush (-3), 2) := by decide +kernel
theorem dX4_work_77 : decode cX4_work 77 = .ok (.invokevirtual 43, 3) := by decide +kernel
theorem dX4_work_80 : decode cX4_work 80 = .ok (.ireturn, 1) := by decide +kernel
theorem dX4_work_81 : decode cX4_work 81 = .ok (.aload_n 0, 1) := by decide +kernel
theorem dX4_work_82 : decode cX4_work 82 = .ok (.getfield 10, 3) := by decide +kernel
theorem dX4_work_85 : decode cX4_work 85 = .ok (.iload_n 1, 1) := by decide +kernel
theorem dX4_work_86 : decode cX4_work 86 = .ok (.iload_n 2, 1) := by decide +kernel
theorem dX4_work_87 : decode cX4_work 87 = .ok (.iload_n 3, 1) := by decide +kernel
theorem dX4_work_88 : decode cX4_work 88 = .ok (.invokevirtual 126, 3) := by decide +kernel
theorem dX4_work_91 : decode cX4_work 91 = .ok (.aload_n 0, 1) := by decide +kernel
theorem dX4_work_92 : decode cX4_work 92 = .ok (.iconst 0, 1) := by decide +kernel
theorem dX4_work_93 : decode cX4_work 93 = .ok (.putfield 76, 3) := by decide +kernel
theorem dX4_work_96 : decode cX4_work 96 = .ok (.aload_n 0, 1) := by decide +kernel
theorem dX4_work_97 : decode cX4_work 97 = .ok (.getfield 10, 3) := by decide +kernel
theorem dX4_work_100 : decode cX4_work 100 = .ok (.getfield 123, 3) := by decide +kernel
theorem dX4_work_103 : decode cX4_work 103 = .ok (.iconst 1, 1) := by decide +kernel
theorem dX4_work_104 : decode cX4_work 104 = .ok (.isub, 1) := by decide +kernel
theorem dX4_work_105 : decode cX4_work 105 = .ok (.ireturn, 1) := by decide +kernel
abbrev A4_work (G : GG) (Q : Int32 → MM → Prop) := AW G E0 (MZ G (qI Q)) (WY yX4_work cX4_work 4 (some .int)) RX4 cX4_work 4 (some .int) ({ frames := 2, cells := 0, slots := 0, locals := 43 } : Room) 0 0
def D4_work_c43 (Q : Int32 → MM → Prop) (M : MM) : Prop := D4_refused (-6 : Int32) M (fun (r18 : Int32) (M19 : MM) => Q r18 M19)
def D4_work (x1 : Int32) (x2 : Int32) (x3 : Int32) (M : MM) (Q : Int32 → MM → Prop) : Prop := D4_isKind x1 M (fun (r1 : Int32) (M2 : MM) => ((r1 ≠ 0 → ((0 ≤ x2 → (((10 : Int32) ≤ x2 → D4_work_c43 Q M2) ∧ (¬ (10 : Int32) ≤ x2 → (((M2 1 4) < (8 : Int32) → D4_isCell x3 M2 (fun (r3 : Int32) (M4 : MM) => ((r3 ≠ 0 → D0_workIn 1 x3 M4 (fun (r5 : Int32) (M6 : MM) => ((r5 < 0 → D0_builds 1 x1 x2 x3 M6 (fun (M8 : MM) => (fun M9 : MM => Q ((M9 1 4) - (1 : Int32)) M9) (up M8 0 9 (0 : Int32)))) ∧ (¬ r5 < 0 → D4_refused (-3 : Int32) M6 (fun (r10 : Int32) (M11 : MM) => Q r10 M11))))) ∧ (r3 = 0 → D4_refused (-1 : Int32) M4 (fun (r12 : Int32) (M13 : MM) => Q r12 M13))))) ∧ (¬ (M2 1 4) < (8 : Int32) → D4_work_c43 Q M2))))) ∧ (¬ 0 ≤ x2 → D4_refused (-4 : Int32) M2 (fun (r14 : Int32) (M15 : MM) => Q r14 M15)))) ∧ (r1 = 0 → D4_refused (-2 : Int32) M2 (fun (r16 : Int32) (M17 : MM) => Q r16 M17))))
set_option maxHeartbeats 4000000 in
set_option maxRecDepth 100000 in
theorem s4_work_c43 {G : GG} {Q : Int32 → MM → Prop} : ∀  (M : MM), D4_work_c43 Q M → A4_work G Q 43 [(0, .ref (gA G 0))] [] M := by
  intro  M h
  unfold D4_work_c43 at h
  refine a_aload_n dX4_work_43 0 rfl ?_
  refine a_bipush (v := -6) dX4_work_44 (by decide) ?_
  refine a_callVi (n := 1) [.int _] (C := RX4) (ci := 2) (qc := (RX4, TX4, 12)) (fsF := fl2 G _) ob_0.1 (fun _ => en2 ob_0.2) rfl rfl dX4_work_46 (s4_refused h) (gV tbc kM_RX4_43_X4_refused kI_X4_refused kS_X4_refused kN_RX4 kC_X4_refused) rfl (by decide +kernel) ⟨Nat.le_of_ble_eq_true rfl, Nat.le_of_ble_eq_true rfl⟩ rfl rfl (Nat.le_of_ble_eq_true rfl) ⟨Nat.le_refl 0, Nat.le_refl 0⟩ (fun r M h => ?_)
  exact a_iret dX4_work_49 ⟨_, rfl, h⟩
set_option maxHeartbeats 4000000 in
set_option maxRecDepth 100000 in
theorem s4_work {G : GG} {x1 : Int32} {x2 : Int32} {x3 : Int32} {M : MM} {Q : Int32 → MM → Prop} (h : D4_work x1 x2 x3 M Q) : CM G yX4_work (WY yX4_work cX4_work 4 (some .int)) 2 43 [.ref (gA G 0), .int x1, .int x2, .int x3] M (qI Q) := by
  refine CM.of (cc := cX4_work) (nL := 4) (ret := (some .int)) (own := RX4) (by decide +kernel) rfl rfl (Nat.le_of_ble_eq_true rfl) ?_
  show A4_work G Q 0 [(0, .ref (gA G 0)), (1, .int x1), (2, .int x2), (3, .int x3)] [] M
  unfold D4_work at h
  refine a_iload_n dX4_work_0 1 rfl ?_
  refine a_callSi (n := 1) [.int _] dX4_work_1 (s4_isKind h) (gS tbc kM_RX4_120_X4_isKind kT_X4_isKind kN_RX4 kC_X4_isKind) rfl (by decide +kernel) ⟨Nat.le_of_ble_eq_true rfl, Nat.le_of_ble_eq_true rfl⟩ rfl rfl (Nat.le_of_ble_eq_true rfl) ⟨Nat.le_refl 0, Nat.le_refl 0⟩ (fun r M h => ?_)
  refine a_if_ne (tgt := 14) dX4_work_4 (by decide) (fun c => ?_) (fun c => ?_)
  · have h := h.1 c
    refine a_iload_n dX4_work_14 2 rfl ?_
    refine a_if_ge (tgt := 25) dX4_work_15 (by decide) (fun c => ?_) (fun c => ?_)
    · have h := h.1 c
      refine a_iload_n dX4_work_25 2 rfl ?_
      refine a_bipush (v := 10) dX4_work_26 (by decide) ?_
      refine a_icmp_ge (tgt := 43) dX4_work_28 (by decide) (fun c => ?_) (fun c => ?_)
      · have h := h.1 c
        refine a_sub [0] rfl ?_
        exact s4_work_c43 _ h
      · have h := h.2 c
        refine a_aload_n dX4_work_31 0 rfl ?_
        refine a_get2 dX4_work_32 0 (by decide) (tbc _ kF_RX4_10) (fun w h => tbc _ (uW2 w h)) rfl ob_0 rfl ?_
        refine a_getN0 dX4_work_35 4 (by decide) (fun _ h => h.1) (fun w h => tbc _ (uW0 w h)) rfl ob_1 rfl ?_
        refine a_bipush (v := 8) dX4_work_38 (by decide) ?_
        refine a_icmp_lt (tgt := 50) dX4_work_40 (by decide) (fun c => ?_) (fun c => ?_)
        · have h := h.1 c
          refine a_iload_n dX4_work_50 3 rfl ?_
          refine a_callSi (n := 1) [.int _] dX4_work_51 (s4_isCell h) (gS tbc kM_RX4_114_X4_isCell kT_X4_isCell kN_RX4 kC_X4_isCell) rfl (by decide +kernel) ⟨Nat.le_of_ble_eq_true rfl, Nat.le_of_ble_eq_true rfl⟩ rfl rfl (Nat.le_of_ble_eq_true rfl) ⟨Nat.le_refl 0, Nat.le_refl 0⟩ (fun r M h => ?_)
          refine a_if_ne (tgt := 63) dX4_work_54 (by decide) (fun c => ?_) (fun c => ?_)
          · have h := h.1 c
            refine a_aload_n dX4_work_63 0 rfl ?_
            refine a_get2 dX4_work_64 0 (by decide) (tbc _ kF_RX4_10) (fun w h => tbc _ (uW2 w h)) rfl ob_0 rfl ?_
            refine a_iload_n dX4_work_67 3 rfl ?_
            refine a_callVi (n := 1) [.int _] (C := RX0) (ci := 0) (qc := (RX0, TX0, 9)) (fsF := fl0 G _) ob_1.1 (fun _ => en0 ob_1.2) rfl rfl dX4_work_68 (s0_workIn ob_1 h) (gV tbc kM_RX4_117_X0_workIn kI_X0_workIn kS_X0_workIn kN_RX0 kC_X0_workIn) rfl (by decide +kernel) ⟨Nat.le_of_ble_eq_true rfl, Nat.le_of_ble_eq_true rfl⟩ rfl rfl (Nat.le_of_ble_eq_true rfl) ⟨Nat.le_refl 0, Nat.le_refl 0⟩ (fun r M h => ?_)
            refine a_if_lt (tgt := 81) dX4_work_71 (by decide) (fun c => ?_) (fun c => ?_)
            · have h := h.1 c
              refine a_aload_n dX4_work_81 0 rfl ?_
              refine a_get2 dX4_work_82 0 (by decide) (tbc _ kF_RX4_10) (fun w h => tbc _ (uW2 w h)) rfl ob_0 rfl ?_
              refine a_iload_n dX4_work_85 1 rfl ?_
              refine a_iload_n dX4_work_86 2 rfl ?_
              refine a_iload_n dX4_work_87 3 rfl ?_
              refine a_callVv (n := 3) [.int _, .int _, .int _] (C := RX0) (ci := 0) (qc := (RX0, TX0, 9)) (fsF := fl0 G _) ob_1.1 (fun _ => en0 ob_1.2) rfl rfl dX4_work_88 (s0_builds ob_1 h) (gV tbc kM_RX4_126_X0_builds kI_X0_builds kS_X0_builds kN_RX0 kC_X0_builds) rfl (by decide +kernel) ⟨Nat.le_of_ble_eq_true rfl, Nat.le_of_ble_eq_true rfl⟩ rfl rfl (Nat.le_of_ble_eq_true rfl) ⟨Nat.le_refl 0, Nat.le_refl 0⟩ (fun M h => ?_)
              refine a_aload_n dX4_work_91 0 rfl ?_
              refine a_iconst (v := 0) dX4_work_92 (by decide) ?_
              refine a_put2 dX4_work_93 9 (by decide) (tbc _ kF_RX4_76) (fun w h => tbc _ (uW2 w h)) rfl rfl rfl rfl ob_0 fs2_9 ?_
              refine a_aload_n dX4_work_96 0 rfl ?_
              refine a_get2 dX4_work_97 0 (by decide) (tbc _ kF_RX4_10) (fun w h => tbc _ (uW2 w h)) rfl ob_0 rfl ?_
              refine a_getN0 dX4_work_100 4 (by decide) (fun _ h => h.1) (fun w h => tbc _ (uW0 w h)) rfl ob_1 rfl ?_
              refine a_iconst (v := 1) dX4_work_103 (by decide) ?_
              refine a_isub dX4_work_104 ?_
              exact a_iret dX4_work_105 ⟨_, rfl, h⟩
            · have h := h.2 c
              refine a_aload_n dX4_work_74 0 rfl ?_
              refine a_bipush (v := -3) dX4_work_75 (by decide) ?_
              refine a_callVi (n := 1) [.int _] (C := RX4) (ci := 2) (qc := (RX4, TX4, 12)) (fsF := fl2 G _) ob_0.1 (fun _ => en2 ob_0.2) rfl rfl dX4_work_77 (s4_refused h) (gV tbc kM_RX4_43_X4_refused kI_X4_refused kS_X4_refused kN_RX4 kC_X4_refused) rfl (by decide +kernel) ⟨Nat.le_of_ble_eq_true rfl, Nat.le_of_ble_eq_true rfl⟩ rfl rfl (Nat.le_of_ble_eq_true rfl) ⟨Nat.le_refl 0, Nat.le_refl 0⟩ (fun r M h => ?_)
              exact a_iret dX4_work_80 ⟨_, rfl, h⟩
          · have h := h.2 c
            refine a_aload_n dX4_work_57 0 rfl ?_
            refine a_iconst (v := -1) dX4_work_58 (by decide) ?_
            refine a_callVi (n := 1) [.int _] (C := RX4) (ci := 2) (qc := (RX4, TX4, 12)) (fsF := fl2 G _) ob_0.1 (fun _ => en2 ob_0.2) rfl rfl dX4_work_59 (s4_refused h) (gV tbc kM_RX4_43_X4_refused kI_X4_refused kS_X4_refused kN_RX4 kC_X4_refused) rfl (by decide +kernel) ⟨Nat.le_of_ble_eq_true rfl, Nat.le_of_ble_eq_true rfl⟩ rfl rfl (Nat.le_of_ble_eq_true rfl) ⟨Nat.le_refl 0, Nat.le_refl 0⟩ (fun r M h => ?_)
            exact a_iret dX4_work_62 ⟨_, rfl, h⟩
        · have h := h.2 c
          refine a_sub [0] rfl ?_
          exact s4_work_c43 _ h
    · have h := h.2 c
      refine a_aload_n dX4_work_18 0 rfl ?_
      refine a_bipush (v := -4) dX4_work_19 (by decide) ?_
      refine a_callVi (n := 1) [.int _] (C := RX4) (ci := 2) (qc := (RX4, TX4, 12)) (fsF := fl2 G _) ob_0.1 (fun _ => en2 ob_0.2) rfl rfl dX4_work_21 (s4_refused h) (gV tbc kM_RX4_43_X4_refused kI_X4_refused kS_X4_refused kN_RX4 kC_X4_refused) rfl (by decide +kernel) ⟨Nat.le_of_ble_eq_true rfl, Nat.le_of_ble_eq_true rfl⟩ rfl rfl (Nat.le_of_ble_eq_true rfl) ⟨Nat.le_refl 0, Nat.le_refl 0⟩ (fun r M h => ?_)
      exact a_iret dX4_work_24 ⟨_, rfl, h⟩
  · have h := h.2 c
    refine a_aload_n dX4_work_7 0 rfl ?_
    refine a_bipush (v := -2) dX4_work_8 (by decide) ?_
    refine a_callVi (n := 1) [.int _] (C := RX4) (ci := 2) (qc := (RX4, TX4, 12)) (fsF := fl2 G _) ob_0.1 (fun _ => en2 ob_0.2) rfl rfl dX4_work_10 (s4_refused h) (gV tbc kM_RX4_43_X4_refused kI_X4_refused kS_X4_refused kN_RX4 kC_X4_refused) rfl (by decide +kernel) ⟨Nat.le_of_ble_eq_true rfl, Nat.le_of_ble_eq_true rfl⟩ rfl rfl (Nat.le_of_ble_eq_true rfl) ⟨Nat.le_refl 0, Nat.le_refl 0⟩ (fun r M h => ?_)
    exact a_iret dX4_work_13 ⟨_, rfl, h⟩

/-! X4_workOf -/
theorem dX4_workOf_0 : decode cX4_workOf 0 = .ok (.aload_n 0, 1) := by decide +kernel
theorem dX4_workOf_1 : decode cX4_workOf 1 = .ok (.getfield 10, 3) := by decide +kernel
theorem dX4_workOf_4 : decode cX4_workOf 4 = .ok (.iload_n 1, 1) := by decide +kernel
theorem dX4_workOf_5 : decode cX4_workOf 5 = .ok (.invokevirtual 80, 3) := by decide +kernel
theorem dX4_workOf_8 : decode cX4_workOf 8 = .ok (.ifCond .ne 9, 3) := by decide +kernel
theorem dX4_workOf_11 : decode cX4_workOf 11 = .ok (.aload_n 0, 1) := by decide +kernel
theorem dX4_workOf_12 : decode cX4_workOf 12 = .ok (.iconst (-1), 1) := by decide +kernel
theorem dX4_workOf_13 : decode cX4_workOf 13 = .ok (.invokevirtual 43, 3) := by decide +kernel
theorem dX4_workOf_16 : decode cX4_workOf 16 = .ok (.ireturn, 1) := by decide +kernel
theorem dX4_workOf_17 : decode cX4_workOf 17 = .ok (.iload_n 2, 1) := by decide +kernel
theorem dX4_workOf_18 : decode cX4_workOf 18 = .ok (.tableswitch 161 0 8 #[50, 59, 68, 77, 86, 103, 112, 121, 141], 50) := by decide +kernel
theorem dX4_workOf_68 : decode cX4_workOf 68 = .ok (.aload_n 0, 1) := by decide +kernel
theorem dX4_workOf_69 : decode cX4_workOf 69 = .ok (.getfield 10, 3) := by decide +kernel
theorem dX4_workOf_72 : decode cX4_workOf 72 = .ok (.iload_n 1, 1) := by decide +kernel
theorem dX4_workOf_73 : decode cX4_workOf 73 = .ok (.invokevirtual 84, 3) := by decide +kernel
theorem dX4_workOf_76 : decode cX4_workOf 76 = .ok (.ireturn, 1) := by decide +kernel
theorem dX4_workOf_77 : decode cX4_workOf 77 = .ok (.aload_n 0, 1) := by decide +kernel
theorem dX4_workOf_78 : decode cX4_workOf 78 = .ok (.getfield 10, 3) := by decide +kernel
theorem dX4_workOf_81 : decode cX4_workOf 81 = .ok (.iload_n 1, 1) := by decide +kernel
theorem dX4_workOf_82 : decode cX4_workOf 82 = .ok (.invokevirtual 87, 3) := by decide +kernel
theorem dX4_workOf_85 : decode cX4_workOf 85 = .ok (.ireturn, 1) := by decide +kernel
theorem dX4_workOf_86 : decode cX4_workOf 86 = .ok (.aload_n 0, 1) := by decide +kernel
theorem dX4_workOf_87 : decode cX4_workOf 87 = .ok (.getfield 10, 3) := by decide +kernel
theorem dX4_workOf_90 : decode cX4_workOf 90 = .ok (.iload_n 1, 1) := by decide +kernel
theorem dX4_workOf_91 : decode cX4_workOf 91 = .ok (.invokevirtual 90, 3) := by decide +kernel
theorem dX4_workOf_94 : decode cX4_workOf 94 = .ok (.ireturn, 1) := by decide +kernel
theorem dX4_workOf_95 : decode cX4_workOf 95 = .ok (.aload_n 0, 1) := by decide +kernel
theorem dX4_workOf_96 : decode cX4_workOf 96 = .ok (.getfield 10, 3) := by decide +kernel
theorem dX4_workOf_99 : decode cX4_workOf 99 = .ok (.iload_n 1, 1) := by decide +kernel
theorem dX4_workOf_100 : decode cX4_workOf 100 = .ok (.invokevirtual 93, 3) := by decide +kernel
theorem dX4_workOf_103 : decode cX4_workOf 103 = .ok (.ireturn, 1) := by decide +kernel
theorem dX4_workOf_104 : decode cX4_workOf 104 = .ok (.aload_n 0, 1) := by decide +kernel
theorem dX4_workOf_105 : decode cX4_workOf 105 = .ok (.getfield 10, 3) := by decide +kernel
theorem dX4_workOf_108 : decode cX4_workOf 108 = .ok (.iload_n 1, 1) := by decide +kernel
theorem dX4_workOf_109 : decode cX4_workOf 109 = .ok (.invokevirtual 96, 3) := by decide +kernel
theorem dX4_workOf_112 : decode cX4_workOf 112 = .ok (.ifCond .eq 7, 3) := by decide +kernel
theorem dX4_workOf_115 : decode cX4_workOf 115 = .ok (.iconst 1, 1) := by decide +kernel
theorem dX4_workOf_116 : decode cX4_workOf 116 = .ok (.goto 4, 3) := by decide +kernel
theorem dX4_workOf_119 : decode cX4_workOf 119 = .ok (.iconst 0, 1) := by decide +kernel
theorem dX4_workOf_120 : decode cX4_workOf 120 = .ok (.ireturn, 1) := by decide +kernel
theorem dX4_workOf_121 : decode cX4_workOf 121 = .ok (.aload_n 0, 1) := by decide +kernel
theorem dX4_workOf_122 : decode cX4_workOf 122 = .ok (.getfield 10, 3) := by decide +kernel
theorem dX4_workOf_125 : decode cX4_workOf 125 = .ok (.iload_n 1, 1) := by decide +kernel
theorem dX4_workOf_126 : decode cX4_workOf 126 = .ok (.invokevirtual 99, 3) := by decide +kernel
theorem dX4_workOf_129 : decode cX4_workOf 129 = .ok (.ireturn, 1) := by decide +kernel
theorem dX4_workOf_130 : decode cX4_workOf 130 = .ok (.aload_n 0, 1) := by decide +kernel
theorem dX4_workOf_131 : decode cX4_workOf 131 = .ok (.getfield 10, 3) := by decide +kernel
theorem dX4_workOf_134 : decode cX4_workOf 134 = .ok (.iload_n 1, 1) := by decide +kernel
theorem dX4_workOf_135 : decode cX4_workOf 135 = .ok (.invokevirtual 102, 3) := by decide +kernel
theorem dX4_workOf_138 : decode cX4_workOf 138 = .ok (.ireturn, 1) := by decide +kernel
theorem dX4_workOf_139 : decode cX4_workOf 139 = .ok (.aload_n 0, 1) := by decide +kernel
theorem dX4_workOf_140 : decode cX4_workOf 140 = .ok (.getfield 10, 3) := by decide +kernel
theorem dX4_workOf_143 : decode cX4_workOf 143 = .ok (.iload_n 1, 1) := by decide +kernel
theorem dX4_workOf_144 : decode cX4_workOf 144 = .ok (.invokevirtual 84, 3) := by decide +kernel
theorem dX4_workOf_147 : decode cX4_workOf 147 = .ok (.aload_n 0, 1) := by decide +kernel
theorem dX4_workOf_148 : decode cX4_workOf 148 = .ok (.getfield 10, 3) := by decide +kernel
theorem dX4_workOf_151 : decode cX4_workOf 151 = .ok (.iload_n 1, 1) := by decide +kernel
theorem dX4_workOf_152 : decode cX4_workOf 152 = .ok (.invokevirtual 87, 3) := by decide +kernel
theorem dX4_workOf_155 : decode cX4_workOf 155 = .ok (.invokestatic 105, 3) := by decide +kernel
theorem dX4_workOf_158 : decode cX4_workOf 158 = .ok (.ireturn, 1) := by decide +kernel
theorem dX4_workOf_159 : decode cX4_workOf 159 = .ok (.aload_n 0, 1) := by decide +kernel
theorem dX4_workOf_160 : decode cX4_workOf 160 = .ok (.getfield 10, 3) := by decide +kernel
theorem dX4_workOf_163 : decode cX4_workOf 163 = .ok (.iload_n 1, 1) := by decide +kernel
theorem dX4_workOf_164 : decode cX4_workOf 164 = .ok (.invokevirtual 84, 3) := by decide +kernel
theorem dX4_workOf_167 : decode cX4_workOf 167 = .ok (.invokestatic 111, 3) := by decide +kernel
theorem dX4_workOf_170 : decode cX4_workOf 170 = .ok (.ifCond .eq 7, 3) := by decide +kernel
theorem dX4_workOf_173 : decode cX4_workOf 173 = .ok (.iconst 1, 1) := by decide +kernel
theorem dX4_workOf_174 : decode cX4_workOf 174 = .ok (.goto 4, 3) := by decide +kernel
theorem dX4_workOf_177 : decode cX4_workOf 177 = .ok (.iconst 0, 1) := by decide +kernel
theorem dX4_workOf_178 : decode cX4_workOf 178 = .ok (.ireturn, 1) := by decide +kernel
theorem dX4_workOf_179 : decode cX4_workOf 179 = .ok (.aload_n 0, 1) := by decide +kernel
theorem dX4_workOf_180 : decode cX4_workOf 180 = .ok (.bipush (-2), 2) := by decide +kernel
theorem dX4_workOf_182 : decode cX4_workOf 182 = .ok (.invokevirtual 43, 3) := by decide +kernel
theorem dX4_workOf_185 : decode cX4_workOf 185 = .ok (.ireturn, 1) := by decide +kernel
abbrev A4_workOf (G : GG) (Q : Int32 → MM → Prop) := AW G E0 (MZ G (qI Q)) (WY yX4_workOf cX4_workOf 3 (some .int)) RX4 cX4_workOf 3 (some .int) ({ frames := 3, cells := 0, slots := 0, locals := 63 } : Room) 0 0
def D4_workOf (x1 : Int32) (x2 : Int32) (M : MM) (Q : Int32 → MM → Prop) : Prop := D0_knows 1 x1 M (fun (r1 : Int32) (M2 : MM) => ((r1 ≠ 0 → ((x2 = 0 → D0_kindOf 1 x1 M2 (fun (r3 : Int32) (M4 : MM) => Q r3 M4)) ∧ (¬ x2 = 0 → ((x2 = 1 → D0_figureOf 1 x1 M2 (fun (r5 : Int32) (M6 : MM) => Q r5 M6)) ∧ (¬ x2 = 1 → ((x2 = 2 → D0_cellOf 1 x1 M2 (fun (r7 : Int32) (M8 : MM) => Q r7 M8)) ∧ (¬ x2 = 2 → ((x2 = 3 → D0_wornOf 1 x1 M2 (fun (r9 : Int32) (M10 : MM) => Q r9 M10)) ∧ (¬ x2 = 3 → ((x2 = 4 → D0_stands 1 x1 M2 (fun (r11 : Int32) (M12 : MM) => ((r11 = 0 → Q (0 : Int32) M12) ∧ (¬ r11 = 0 → Q (1 : Int32) M12)))) ∧ (¬ x2 = 4 → ((x2 = 5 → D0_holdsOf 1 x1 M2 (fun (r13 : Int32) (M14 : MM) => Q r13 M14)) ∧ (¬ x2 = 5 → ((x2 = 6 → D0_rateOf 1 x1 M2 (fun (r15 : Int32) (M16 : MM) => Q r15 M16)) ∧ (¬ x2 = 6 → ((x2 = 7 → D0_kindOf 1 x1 M2 (fun (r17 : Int32) (M18 : MM) => D0_figureOf 1 x1 M18 (fun (r19 : Int32) (M20 : MM) => D1_letsFor r17 r19 M20 (fun (r21 : Int32) (M22 : MM) => Q r21 M22)))) ∧ (¬ x2 = 7 → ((x2 = 8 → D0_kindOf 1 x1 M2 (fun (r23 : Int32) (M24 : MM) => D1_stopsSea r23 M24 (fun (r25 : Int32) (M26 : MM) => ((r25 = 0 → Q (0 : Int32) M26) ∧ (¬ r25 = 0 → Q (1 : Int32) M26))))) ∧ (¬ x2 = 8 → D4_refused (-2 : Int32) M2 (fun (r27 : Int32) (M28 : MM) => Q r27 M28)))))))))))))))))))) ∧ (r1 = 0 → D4_refused (-1 : Int32) M2 (fun (r29 : Int32) (M30 : MM) => Q r29 M30))))
set_option maxHeartbeats 4000000 in
set_option maxRecDepth 100000 in
theorem s4_workOf {G : GG} {x1 : Int32} {x2 : Int32} {M : MM} {Q : Int32 → MM → Prop} (h : D4_workOf x1 x2 M Q) : CM G yX4_workOf (WY yX4_workOf cX4_workOf 3 (some .int)) 3 63 [.ref (gA G 0), .int x1, .int x2] M (qI Q) := by
  refine CM.of (cc := cX4_workOf) (nL := 3) (ret := (some .int)) (own := RX4) (by decide +kernel) rfl rfl (Nat.le_of_ble_eq_true rfl) ?_
  show A4_workOf G Q 0 [(0, .ref (gA G 0)), (1, .int x1), (2, .int x2)] [] M
  unfold D4_workOf at h
  refine a_aload_n dX4_workOf_0 0 rfl ?_
  refine a_get2 dX4_workOf_1 0 (by decide) (tbc _ kF_RX4_10) (fun w h => tbc _ (uW2 w h)) rfl ob_0 rfl ?_
  refine a_iload_n dX4_workOf_4 1 rfl ?_
  refine a_callVi (n := 1) [.int _] (C := RX0) (ci := 0) (qc := (RX0, TX0, 9)) (fsF := fl0 G _) ob_1.1 (fun _ => en0 ob_1.2) rfl rfl dX4_workOf_5 (s0_knows ob_1 h) (gV tbc kM_RX4_80_X0_knows kI_X0_knows kS_X0_knows kN_RX0 kC_X0_knows) rfl (by decide +kernel) ⟨Nat.le_of_ble_eq_true rfl, Nat.le_of_ble_eq_true rfl⟩ rfl rfl (Nat.le_of_ble_eq_true rfl) ⟨Nat.le_refl 0, Nat.le_refl 0⟩ (fun r M h => ?_)
  refine a_if_ne (tgt := 17) dX4_workOf_8 (by decide) (fun c => ?_) (fun c => ?_)
  · have h := h.1 c
    refine a_iload_n dX4_workOf_17 2 rfl ?_
    refine em_c h (fun c0 h => ?_) (fun c0 h => ?_)
    · refine a_tableIn (off := 50) (tgt := 68) dX4_workOf_18 (by rw [c0]; decide) (by rw [c0]; decide) (by rw [c0]; rfl) (by decide) ?_
      refine a_aload_n dX4_workOf_68 0 rfl ?_
      refine a_get2 dX4_workOf_69 0 (by decide) (tbc _ kF_RX4_10) (fun w h => tbc _ (uW2 w h)) rfl ob_0 rfl ?_
      refine a_iload_n dX4_workOf_72 1 rfl ?_
      refine a_callVi (n := 1) [.int _] (C := RX0) (ci := 0) (qc := (RX0, TX0, 9)) (fsF := fl0 G _) ob_1.1 (fun _ => en0 ob_1.2) rfl rfl dX4_workOf_73 (s0_kindOf ob_1 h) (gV tbc kM_RX4_84_X0_kindOf kI_X0_kindOf kS_X0_kindOf kN_RX0 kC_X0_kindOf) rfl (by decide +kernel) ⟨Nat.le_of_ble_eq_true rfl, Nat.le_of_ble_eq_true rfl⟩ rfl rfl (Nat.le_of_ble_eq_true rfl) ⟨Nat.le_refl 0, Nat.le_refl 0⟩ (fun r M h => ?_)
      exact a_iret dX4_workOf_76 ⟨_, rfl, h⟩
    · refine em_c h (fun c1 h => ?_) (fun c1 h => ?_)
      · refine a_tableIn (off := 59) (tgt := 77) dX4_workOf_18 (by rw [c1]; decide) (by rw [c1]; decide) (by rw [c1]; rfl) (by decide) ?_
        refine a_aload_n dX4_workOf_77 0 rfl ?_
        refine a_get2 dX4_workOf_78 0 (by decide) (tbc _ kF_RX4_10) (fun w h => tbc _ (uW2 w h)) rfl ob_0 rfl ?_
        refine a_iload_n dX4_workOf_81 1 rfl ?_
        refine a_callVi (n := 1) [.int _] (C := RX0) (ci := 0) (qc := (RX0, TX0, 9)) (fsF := fl0 G _) ob_1.1 (fun _ => en0 ob_1.2) rfl rfl dX4_workOf_82 (s0_figureOf ob_1 h) (gV tbc kM_RX4_87_X0_figureOf kI_X0_figureOf kS_X0_figureOf kN_RX0 kC_X0_figureOf) rfl (by decide +kernel) ⟨Nat.le_of_ble_eq_true rfl, Nat.le_of_ble_eq_true rfl⟩ rfl rfl (Nat.le_of_ble_eq_true rfl) ⟨Nat.le_refl 0, Nat.le_refl 0⟩ (fun r M h => ?_)
        exact a_iret dX4_workOf_85 ⟨_, rfl, h⟩
      · refine em_c h (fun c2 h => ?_) (fun c2 h => ?_)
        · refine a_tableIn (off := 68) (tgt := 86) dX4_workOf_18 (by rw [c2]; decide) (by rw [c2]; decide) (by rw [c2]; rfl) (by decide) ?_
          refine a_aload_n dX4_workOf_86 0 rfl ?_
          refine a_get2 dX4_workOf_87 0 (by decide) (tbc _ kF_RX4_10) (fun w h => tbc _ (uW2 w h)) rfl ob_0 rfl ?_
          refine a_iload_n dX4_workOf_90 1 rfl ?_
          refine a_callVi (n := 1) [.int _] (C := RX0) (ci := 0) (qc := (RX0, TX0, 9)) (fsF := fl0 G _) ob_1.1 (fun _ => en0 ob_1.2) rfl rfl dX4_workOf_91 (s0_cellOf ob_1 h) (gV tbc kM_RX4_90_X0_cellOf kI_X0_cellOf kS_X0_cellOf kN_RX0 kC_X0_cellOf) rfl (by decide +kernel) ⟨Nat.le_of_ble_eq_true rfl, Nat.le_of_ble_eq_true rfl⟩ rfl rfl (Nat.le_of_ble_eq_true rfl) ⟨Nat.le_refl 0, Nat.le_refl 0⟩ (fun r M h => ?_)
          exact a_iret dX4_workOf_94 ⟨_, rfl, h⟩
        · refine em_c h (fun c3 h => ?_) (fun c3 h => ?_)
          · refine a_tableIn (off := 77) (tgt := 95) dX4_workOf_18 (by rw [c3]; decide) (by rw [c3]; decide) (by rw [c3]; rfl) (by decide) ?_
            refine a_aload_n dX4_workOf_95 0 rfl ?_
            refine a_get2 dX4_workOf_96 0 (by decide) (tbc _ kF_RX4_10) (fun w h => tbc _ (uW2 w h)) rfl ob_0 rfl ?_
            refine a_iload_n dX4_workOf_99 1 rfl ?_
            refine a_callVi (n := 1) [.int _] (C := RX0) (ci := 0) (qc := (RX0, TX0, 9)) (fsF := fl0 G _) ob_1.1 (fun _ => en0 ob_1.2) rfl rfl dX4_workOf_100 (s0_wornOf ob_1 h) (gV tbc kM_RX4_93_X0_wornOf kI_X0_wornOf kS_X0_wornOf kN_RX0 kC_X0_wornOf) rfl (by decide +kernel) ⟨Nat.le_of_ble_eq_true rfl, Nat.le_of_ble_eq_true rfl⟩ rfl rfl (Nat.le_of_ble_eq_true rfl) ⟨Nat.le_refl 0, Nat.le_refl 0⟩ (fun r M h => ?_)
            exact a_iret dX4_workOf_103 ⟨_, rfl, h⟩
          · refine em_c h (fun c4 h => ?_) (fun c4 h => ?_)
            · refine a_tableIn (off := 86) (tgt := 104) dX4_workOf_18 (by rw [c4]; decide) (by rw [c4]; decide) (by rw [c4]; rfl) (by decide) ?_
              refine a_aload_n dX4_workOf_104 0 rfl ?_
              refine a_get2 dX4_workOf_105 0 (by decide) (tbc _ kF_RX4_10) (fun w h => tbc _ (uW2 w h)) rfl ob_0 rfl ?_
              refine a_iload_n dX4_workOf_108 1 rfl ?_
              refine a_callVi (n := 1) [.int _] (C := RX0) (ci := 0) (qc := (RX0, TX0, 9)) (fsF := fl0 G _) ob_1.1 (fun _ => en0 ob_1.2) rfl rfl dX4_workOf_109 (s0_stands ob_1 h) (gV tbc kM_RX4_96_X0_stands kI_X0_stands kS_X0_stands kN_RX0 kC_X0_stands) rfl (by decide +kernel) ⟨Nat.le_of_ble_eq_true rfl, Nat.le_of_ble_eq_true rfl⟩ rfl rfl (Nat.le_of_ble_eq_true rfl) ⟨Nat.le_refl 0, Nat.le_refl 0⟩ (fun r M h => ?_)
              refine a_if_eq (tgt := 119) dX4_workOf_112 (by decide) (fun c => ?_) (fun c => ?_)
              · have h := h.1 c
                refine a_iconst (v := 0) dX4_workOf_119 (by decide) ?_
                exact a_iret dX4_workOf_120 ⟨_, rfl, h⟩
              · have h := h.2 c
                refine a_iconst (v := 1) dX4_workOf_115 (by decide) ?_
                refine a_goto (tgt := 120) dX4_workOf_116 (by decide) ?_
                exact a_iret dX4_workOf_120 ⟨_, rfl, h⟩
            · refine em_c h (fun c5 h => ?_) (fun c5 h => ?_)
              · refine a_tableIn (off := 103) (tgt := 121) dX4_workOf_18 (by rw [c5]; decide) (by rw [c5]; decide) (by rw [c5]; rfl) (by decide) ?_
                refine a_aload_n dX4_workOf_121 0 rfl ?_
                refine a_get2 dX4_workOf_122 0 (by decide) (tbc _ kF_RX4_10) (fun w h => tbc _ (uW2 w h)) rfl ob_0 rfl ?_
                refine a_iload_n dX4_workOf_125 1 rfl ?_
                refine a_callVi (n := 1) [.int _] (C := RX0) (ci := 0) (qc := (RX0, TX0, 9)) (fsF := fl0 G _) ob_1.1 (fun _ => en0 ob_1.2) rfl rfl dX4_workOf_126 (s0_holdsOf ob_1 h) (gV tbc kM_RX4_99_X0_holdsOf kI_X0_holdsOf kS_X0_holdsOf kN_RX0 kC_X0_holdsOf) rfl (by decide +kernel) ⟨Nat.le_of_ble_eq_true rfl, Nat.le_of_ble_eq_true rfl⟩ rfl rfl (Nat.le_of_ble_eq_true rfl) ⟨Nat.le_refl 0, Nat.le_refl 0⟩ (fun r M h => ?_)
                exact a_iret dX4_workOf_129 ⟨_, rfl, h⟩
              · refine em_c h (fun c6 h => ?_) (fun c6 h => ?_)
                · refine a_tableIn (off := 112) (tgt := 130) dX4_workOf_18 (by rw [c6]; decide) (by rw [c6]; decide) (by rw [c6]; rfl) (by decide) ?_
                  refine a_aload_n dX4_workOf_130 0 rfl ?_
                  refine a_get2 dX4_workOf_131 0 (by decide) (tbc _ kF_RX4_10) (fun w h => tbc _ (uW2 w h)) rfl ob_0 rfl ?_
                  refine a_iload_n dX4_workOf_134 1 rfl ?_
                  refine a_callVi (n := 1) [.int _] (C := RX0) (ci := 0) (qc := (RX0, TX0, 9)) (fsF := fl0 G _) ob_1.1 (fun _ => en0 ob_1.2) rfl rfl dX4_workOf_135 (s0_rateOf ob_1 h) (gV tbc kM_RX4_102_X0_rateOf kI_X0_rateOf kS_X0_rateOf kN_RX0 kC_X0_rateOf) rfl (by decide +kernel) ⟨Nat.le_of_ble_eq_true rfl, Nat.le_of_ble_eq_true rfl⟩ rfl rfl (Nat.le_of_ble_eq_true rfl) ⟨Nat.le_refl 0, Nat.le_refl 0⟩ (fun r M h => ?_)
                  exact a_iret dX4_workOf_138 ⟨_, rfl, h⟩
                · refine em_c h (fun c7 h => ?_) (fun c7 h => ?_)
                  · refine a_tableIn (off := 121) (tgt := 139) dX4_workOf_18 (by rw [c7]; decide) (by rw [c7]; decide) (by rw [c7]; rfl) (by decide) ?_
                    refine a_aload_n dX4_workOf_139 0 rfl ?_
                    refine a_get2 dX4_workOf_140 0 (by decide) (tbc _ kF_RX4_10) (fun w h => tbc _ (uW2 w h)) rfl ob_0 rfl ?_
                    refine a_iload_n dX4_workOf_143 1 rfl ?_
                    refine a_callVi (n := 1) [.int _] (C := RX0) (ci := 0) (qc := (RX0, TX0, 9)) (fsF := fl0 G _) ob_1.1 (fun _ => en0 ob_1.2) rfl rfl dX4_workOf_144 (s0_kindOf ob_1 h) (gV tbc kM_RX4_84_X0_kindOf kI_X0_kindOf kS_X0_kindOf kN_RX0 kC_X0_kindOf) rfl (by decide +kernel) ⟨Nat.le_of_ble_eq_true rfl, Nat.le_of_ble_eq_true rfl⟩ rfl rfl (Nat.le_of_ble_eq_true rfl) ⟨Nat.le_refl 0, Nat.le_refl 0⟩ (fun r M h => ?_)
                    refine a_aload_n dX4_workOf_147 0 rfl ?_
                    refine a_get2 dX4_workOf_148 0 (by decide) (tbc _ kF_RX4_10) (fun w h => tbc _ (uW2 w h)) rfl ob_0 rfl ?_
                    refine a_iload_n dX4_workOf_151 1 rfl ?_
                    refine a_callVi (n := 1) [.int _] (C := RX0) (ci := 0) (qc := (RX0, TX0, 9)) (fsF := fl0 G _) ob_1.1 (fun _ => en0 ob_1.2) rfl rfl dX4_workOf_152 (s0_figureOf ob_1 h) (gV tbc kM_RX4_87_X0_figureOf kI_X0_figureOf kS_X0_figureOf kN_RX0 kC_X0_figureOf) rfl (by decide +kernel) ⟨Nat.le_of_ble_eq_true rfl, Nat.le_of_ble_eq_true rfl⟩ rfl rfl (Nat.le_of_ble_eq_true rfl) ⟨Nat.le_refl 0, Nat.le_refl 0⟩ (fun r M h => ?_)
                    refine a_callSi (n := 2) [.int _, .int _] dX4_workOf_155 (s1_letsFor h) (gS tbc kM_RX4_105_X1_letsFor kT_X1_letsFor kN_RX1 kC_X1_letsFor) rfl (by decide +kernel) ⟨Nat.le_of_ble_eq_true rfl, Nat.le_of_ble_eq_true rfl⟩ rfl rfl (Nat.le_of_ble_eq_true rfl) ⟨Nat.le_refl 0, Nat.le_refl 0⟩ (fun r M h => ?_)
                    exact a_iret dX4_workOf_158 ⟨_, rfl, h⟩
                  · refine em_c h (fun c8 h => ?_) (fun c8 h => ?_)
                    · refine a_tableIn (off := 141) (tgt := 159) dX4_workOf_18 (by rw [c8]; decide) (by rw [c8]; decide) (by rw [c8]; rfl) (by decide) ?_
                      refine a_aload_n dX4_workOf_159 0 rfl ?_
                      refine a_get2 dX4_workOf_160 0 (by decide) (tbc _ kF_RX4_10) (fun w h => tbc _ (uW2 w h)) rfl ob_0 rfl ?_
                      refine a_iload_n dX4_workOf_163 1 rfl ?_
                      refine a_callVi (n := 1) [.int _] (C := RX0) (ci := 0) (qc := (RX0, TX0, 9)) (fsF := fl0 G _) ob_1.1 (fun _ => en0 ob_1.2) rfl rfl dX4_workOf_164 (s0_kindOf ob_1 h) (gV tbc kM_RX4_84_X0_kindOf kI_X0_kindOf kS_X0_kindOf kN_RX0 kC_X0_kindOf) rfl (by decide +kernel) ⟨Nat.le_of_ble_eq_true rfl, Nat.le_of_ble_eq_true rfl⟩ rfl rfl (Nat.le_of_ble_eq_true rfl) ⟨Nat.le_refl 0, Nat.le_refl 0⟩ (fun r M h => ?_)
                      refine a_callSi (n := 1) [.int _] dX4_workOf_167 (s1_stopsSea h) (gS tbc kM_RX4_111_X1_stopsSea kT_X1_stopsSea kN_RX1 kC_X1_stopsSea) rfl (by decide +kernel) ⟨Nat.le_of_ble_eq_true rfl, Nat.le_of_ble_eq_true rfl⟩ rfl rfl (Nat.le_of_ble_eq_true rfl) ⟨Nat.le_refl 0, Nat.le_refl 0⟩ (fun r M h => ?_)
                      refine a_if_eq (tgt := 177) dX4_workOf_170 (by decide) (fun c => ?_) (fun c => ?_)
                      · have h := h.1 c
                        refine a_iconst (v := 0) dX4_workOf_177 (by decide) ?_
                        exact a_iret dX4_workOf_178 ⟨_, rfl, h⟩
                      · have h := h.2 c
                        refine a_iconst (v := 1) dX4_workOf_173 (by decide) ?_
                        refine a_goto (tgt := 178) dX4_workOf_174 (by decide) ?_
                        exact a_iret dX4_workOf_178 ⟨_, rfl, h⟩
                    · refine a_tableD (tgt := 179) dX4_workOf_18 (by decide) (fun k h1 h2 e => by have hk : k = 0 ∨ k = 1 ∨ k = 2 ∨ k = 3 ∨ k = 4 ∨ k = 5 ∨ k = 6 ∨ k = 7 ∨ k = 8 := (by omega); rcases hk with rfl | rfl | rfl | rfl | rfl | rfl | rfl | rfl | rfl <;> first | rfl | exact absurd e (ne_ti c0 (by decide)) | exact absurd e (ne_ti c1 (by decide)) | exact absurd e (ne_ti c2 (by decide)) | exact absurd e (ne_ti c3 (by decide)) | exact absurd e (ne_ti c4 (by decide)) | exact absurd e (ne_ti c5 (by decide)) | exact absurd e (ne_ti c6 (by decide)) | exact absurd e (ne_ti c7 (by decide)) | exact absurd e (ne_ti c8 (by decide))) ?_
                      refine a_aload_n dX4_workOf_179 0 rfl ?_
                      refine a_bipush (v := -2) dX4_workOf_180 (by decide) ?_
                      refine a_callVi (n := 1) [.int _] (C := RX4) (ci := 2) (qc := (RX4, TX4, 12)) (fsF := fl2 G _) ob_0.1 (fun _ => en2 ob_0.2) rfl rfl dX4_workOf_182 (s4_refused h) (gV tbc kM_RX4_43_X4_refused kI_X4_refused kS_X4_refused kN_RX4 kC_X4_refused) rfl (by decide +kernel) ⟨Nat.le_of_ble_eq_true rfl, Nat.le_of_ble_eq_true rfl⟩ rfl rfl (Nat.le_of_ble_eq_true rfl) ⟨Nat.le_refl 0, Nat.le_refl 0⟩ (fun r M h => ?_)
                      exact a_iret dX4_workOf_185 ⟨_, rfl, h⟩
  · have h := h.2 c
    refine a_aload_n dX4_workOf_11 0 rfl ?_
    refine a_iconst (v := -1) dX4_workOf_12 (by decide) ?_
    refine a_callVi (n := 1) [.int _] (C := RX4) (ci := 2) (qc := (RX4, TX4, 12)) (fsF := fl2 G _) ob_0.1 (fun _ => en2 ob_0.2) rfl rfl dX4_workOf_13 (s4_refused h) (gV tbc kM_RX4_43_X4_refused kI_X4_refused kS_X4_refused kN_RX4 kC_X4_refused) rfl (by decide +kernel) ⟨Nat.le_of_ble_eq_true rfl, Nat.le_of_ble_eq_true rfl⟩ rfl rfl (Nat.le_of_ble_eq_true rfl) ⟨Nat.le_refl 0, Nat.le_refl 0⟩ (fun r M h => ?_)
    exact a_iret dX4_workOf_16 ⟨_, rfl, h⟩
