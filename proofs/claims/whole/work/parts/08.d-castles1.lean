/-! X4_refused -/
theorem dX4_refused_0 : decode cX4_refused 0 = .ok (.iload_n 1, 1) := by decide +kernel
theorem dX4_refused_1 : decode cX4_refused 1 = .ok (.ineg, 1) := by decide +kernel
theorem dX4_refused_2 : decode cX4_refused 2 = .ok (.istore_n 2, 1) := by decide +kernel
theorem dX4_refused_3 : decode cX4_refused 3 = .ok (.iload_n 2, 1) := by decide +kernel
theorem dX4_refused_4 : decode cX4_refused 4 = .ok (.ifCond .lt 22, 3) := by decide +kernel
theorem dX4_refused_7 : decode cX4_refused 7 = .ok (.iload_n 2, 1) := by decide +kernel
theorem dX4_refused_8 : decode cX4_refused 8 = .ok (.aload_n 0, 1) := by decide +kernel
theorem dX4_refused_9 : decode cX4_refused 9 = .ok (.getfield 37, 3) := by decide +kernel
theorem dX4_refused_12 : decode cX4_refused 12 = .ok (.arraylength, 1) := by decide +kernel
theorem dX4_refused_13 : decode cX4_refused 13 = .ok (.if_icmp .ge 13, 3) := by decide +kernel
theorem dX4_refused_16 : decode cX4_refused 16 = .ok (.aload_n 0, 1) := by decide +kernel
theorem dX4_refused_17 : decode cX4_refused 17 = .ok (.getfield 37, 3) := by decide +kernel
theorem dX4_refused_20 : decode cX4_refused 20 = .ok (.iload_n 2, 1) := by decide +kernel
theorem dX4_refused_21 : decode cX4_refused 21 = .ok (.dup2, 1) := by decide +kernel
theorem dX4_refused_22 : decode cX4_refused 22 = .ok (.iaload, 1) := by decide +kernel
theorem dX4_refused_23 : decode cX4_refused 23 = .ok (.iconst 1, 1) := by decide +kernel
theorem dX4_refused_24 : decode cX4_refused 24 = .ok (.iadd, 1) := by decide +kernel
theorem dX4_refused_25 : decode cX4_refused 25 = .ok (.iastore, 1) := by decide +kernel
theorem dX4_refused_26 : decode cX4_refused 26 = .ok (.iload_n 1, 1) := by decide +kernel
theorem dX4_refused_27 : decode cX4_refused 27 = .ok (.ireturn, 1) := by decide +kernel
abbrev A4_refused (G : GG) (Q : Int32 → MM → Prop) := AW G E0 (MZ G (qI Q)) (WY yX4_refused cX4_refused 3 (some .int)) RX4 cX4_refused 3 (some .int) ({ frames := 0, cells := 0, slots := 0, locals := 0 } : Room) 0 0
def D4_refused (x1 : Int32) (M : MM) (Q : Int32 → MM → Prop) : Prop := (fun v1 : Int32 => ((v1 < 0 → Q x1 M) ∧ (¬ v1 < 0 → (((7 : Int32) ≤ v1 → Q x1 M) ∧ (¬ (7 : Int32) ≤ v1 → ib 60 v1 ∧ ib 60 v1 ∧ (fun M2 : MM => Q x1 M2) (up M 60 (ix v1) ((M 60 (ix v1)) + (1 : Int32)))))))) (-x1)
set_option maxHeartbeats 4000000 in
set_option maxRecDepth 100000 in
theorem s4_refused {G : GG} {x1 : Int32} {M : MM} {Q : Int32 → MM → Prop} (h : D4_refused x1 M Q) : CM G yX4_refused (WY yX4_refused cX4_refused 3 (some .int)) 0 0 [.ref (gA G 0), .int x1] M (qI Q) := by
  refine CM.of (cc := cX4_refused) (nL := 3) (ret := (some .int)) (own := RX4) (by decide +kernel) rfl rfl (Nat.le_of_ble_eq_true rfl) ?_
  show A4_refused G Q 0 [(0, .ref (gA G 0)), (1, .int x1)] [] M
  unfold D4_refused at h
  refine a_iload_n dX4_refused_0 1 rfl ?_
  refine a_ineg dX4_refused_1 ?_
  refine a_istore_n (i := 2) (L' := [(2, .int _), (0, .ref _), (1, .int _)]) dX4_refused_2 rfl (by decide) rfl ?_
  refine a_iload_n dX4_refused_3 0 rfl ?_
  refine a_if_lt (tgt := 26) dX4_refused_4 (by decide) (fun c => ?_) (fun c => ?_)
  · have h := h.1 c
    refine a_iload_n dX4_refused_26 2 rfl ?_
    exact a_iret dX4_refused_27 ⟨_, rfl, h⟩
  · have h := h.2 c
    refine a_iload_n dX4_refused_7 0 rfl ?_
    refine a_aload_n dX4_refused_8 1 rfl ?_
    refine a_get2 dX4_refused_9 6 (by decide) (tbc _ kF_RX4_37) (fun w h => tbc _ (uW2 w h)) rfl ob_0 rfl ?_
    refine a_alen dX4_refused_12 ⟨by decide, rfl⟩ rfl ?_
    refine a_icmp_ge (tgt := 26) dX4_refused_13 (by decide) (fun c => ?_) (fun c => ?_)
    · have h := h.1 c
      refine a_iload_n dX4_refused_26 2 rfl ?_
      exact a_iret dX4_refused_27 ⟨_, rfl, h⟩
    · have h := h.2 c
      refine a_aload_n dX4_refused_16 1 rfl ?_
      refine a_get2 dX4_refused_17 6 (by decide) (tbc _ kF_RX4_37) (fun w h => tbc _ (uW2 w h)) rfl ob_0 rfl ?_
      refine a_iload_n dX4_refused_20 0 rfl ?_
      refine a_dup2 dX4_refused_21 rfl rfl ?_
      refine a_iald dX4_refused_22 h.1 ?_
      have h := h.2
      refine a_iconst (v := 1) dX4_refused_23 (by decide) ?_
      refine a_iadd dX4_refused_24 ?_
      refine a_iast dX4_refused_25 h.1 ?_
      have h := h.2
      refine a_iload_n dX4_refused_26 2 rfl ?_
      exact a_iret dX4_refused_27 ⟨_, rfl, h⟩

/-! X4_assessed -/
theorem dX4_assessed_0 : decode cX4_assessed 0 = .ok (.iload_n 1, 1) := by decide +kernel
theorem dX4_assessed_1 : decode cX4_assessed 1 = .ok (.tableswitch 83 0 3 #[31, 39, 47, 67], 31) := by decide +kernel
theorem dX4_assessed_32 : decode cX4_assessed 32 = .ok (.aload_n 0, 1) := by decide +kernel
theorem dX4_assessed_33 : decode cX4_assessed 33 = .ok (.getfield 10, 3) := by decide +kernel
theorem dX4_assessed_36 : decode cX4_assessed 36 = .ok (.invokevirtual 215, 3) := by decide +kernel
theorem dX4_assessed_39 : decode cX4_assessed 39 = .ok (.ireturn, 1) := by decide +kernel
theorem dX4_assessed_40 : decode cX4_assessed 40 = .ok (.aload_n 0, 1) := by decide +kernel
theorem dX4_assessed_41 : decode cX4_assessed 41 = .ok (.getfield 10, 3) := by decide +kernel
theorem dX4_assessed_44 : decode cX4_assessed 44 = .ok (.invokevirtual 218, 3) := by decide +kernel
theorem dX4_assessed_47 : decode cX4_assessed 47 = .ok (.ireturn, 1) := by decide +kernel
theorem dX4_assessed_48 : decode cX4_assessed 48 = .ok (.iconst 0, 1) := by decide +kernel
theorem dX4_assessed_49 : decode cX4_assessed 49 = .ok (.aload_n 0, 1) := by decide +kernel
theorem dX4_assessed_50 : decode cX4_assessed 50 = .ok (.getfield 10, 3) := by decide +kernel
theorem dX4_assessed_53 : decode cX4_assessed 53 = .ok (.getfield 146, 3) := by decide +kernel
theorem dX4_assessed_56 : decode cX4_assessed 56 = .ok (.aload_n 0, 1) := by decide +kernel
theorem dX4_assessed_57 : decode cX4_assessed 57 = .ok (.getfield 10, 3) := by decide +kernel
theorem dX4_assessed_60 : decode cX4_assessed 60 = .ok (.getfield 158, 3) := by decide +kernel
theorem dX4_assessed_63 : decode cX4_assessed 63 = .ok (.isub, 1) := by decide +kernel
theorem dX4_assessed_64 : decode cX4_assessed 64 = .ok (.invokestatic 221, 3) := by decide +kernel
theorem dX4_assessed_67 : decode cX4_assessed 67 = .ok (.ireturn, 1) := by decide +kernel
theorem dX4_assessed_68 : decode cX4_assessed 68 = .ok (.aload_n 0, 1) := by decide +kernel
theorem dX4_assessed_69 : decode cX4_assessed 69 = .ok (.getfield 10, 3) := by decide +kernel
theorem dX4_assessed_72 : decode cX4_assessed 72 = .ok (.aload_n 0, 1) := by decide +kernel
theorem dX4_assessed_73 : decode cX4_assessed 73 = .ok (.getfield 10, 3) := by decide +kernel
theorem dX4_assessed_76 : decode cX4_assessed 76 = .ok (.iconst 5, 1) := by decide +kernel
theorem dX4_assessed_77 : decode cX4_assessed 77 = .ok (.invokevirtual 226, 3) := by decide +kernel
theorem dX4_assessed_80 : decode cX4_assessed 80 = .ok (.invokevirtual 229, 3) := by decide +kernel
theorem dX4_assessed_83 : decode cX4_assessed 83 = .ok (.ireturn, 1) := by decide +kernel
theorem dX4_assessed_84 : decode cX4_assessed 84 = .ok (.aload_n 0, 1) := by decide +kernel
theorem dX4_assessed_85 : decode cX4_assessed 85 = .ok (.bipush (-2), 2) := by decide +kernel
theorem dX4_assessed_87 : decode cX4_assessed 87 = .ok (.invokevirtual 43, 3) := by decide +kernel
theorem dX4_assessed_90 : decode cX4_assessed 90 = .ok (.ireturn, 1) := by decide +kernel
abbrev A4_assessed (G : GG) (Q : Int32 → MM → Prop) := AW G E0 (MZ G (qI Q)) (WY yX4_assessed cX4_assessed 2 (some .int)) RX4 cX4_assessed 2 (some .int) ({ frames := 4, cells := 0, slots := 0, locals := 85 } : Room) 0 0
def D4_assessed (x1 : Int32) (M : MM) (Q : Int32 → MM → Prop) : Prop := ((x1 = 0 → D0_rates 1 M (fun (r1 : Int32) (M2 : MM) => Q r1 M2)) ∧ (¬ x1 = 0 → ((x1 = 1 → D0_dearest 1 M (fun (r3 : Int32) (M4 : MM) => Q r3 M4)) ∧ (¬ x1 = 1 → ((x1 = 2 → Q (if (0 : Int32) < ((M 1 8) - (M 1 7)) then ((M 1 8) - (M 1 7)) else (0 : Int32)) M) ∧ (¬ x1 = 2 → ((x1 = 3 → D0_wetAt 1 (5 : Int32) M (fun (r5 : Int32) (M6 : MM) => D0_dryWorks 1 r5 M6 (fun (r7 : Int32) (M8 : MM) => Q r7 M8))) ∧ (¬ x1 = 3 → D4_refused (-2 : Int32) M (fun (r9 : Int32) (M10 : MM) => Q r9 M10)))))))))
set_option maxHeartbeats 4000000 in
set_option maxRecDepth 100000 in
theorem s4_assessed {G : GG} {x1 : Int32} {M : MM} {Q : Int32 → MM → Prop} (h : D4_assessed x1 M Q) : CM G yX4_assessed (WY yX4_assessed cX4_assessed 2 (some .int)) 4 85 [.ref (gA G 0), .int x1] M (qI Q) := by
  refine CM.of (cc := cX4_assessed) (nL := 2) (ret := (some .int)) (own := RX4) (by decide +kernel) rfl rfl (Nat.le_of_ble_eq_true rfl) ?_
  show A4_assessed G Q 0 [(0, .ref (gA G 0)), (1, .int x1)] [] M
  unfold D4_assessed at h
  refine a_iload_n dX4_assessed_0 1 rfl ?_
  refine em_c h (fun c0 h => ?_) (fun c0 h => ?_)
  · refine a_tableIn (off := 31) (tgt := 32) dX4_assessed_1 (by rw [c0]; decide) (by rw [c0]; decide) (by rw [c0]; rfl) (by decide) ?_
    refine a_aload_n dX4_assessed_32 0 rfl ?_
    refine a_get2 dX4_assessed_33 0 (by decide) (tbc _ kF_RX4_10) (fun w h => tbc _ (uW2 w h)) rfl ob_0 rfl ?_
    refine a_callVi (n := 0) [] (C := RX0) (ci := 0) (qc := (RX0, TX0, 9)) (fsF := fl0 G _) ob_1.1 (fun _ => en0 ob_1.2) rfl rfl dX4_assessed_36 (s0_rates ob_1 h) (gV tbc kM_RX4_215_X0_rates kI_X0_rates kS_X0_rates kN_RX0 kC_X0_rates) rfl (by decide +kernel) ⟨Nat.le_of_ble_eq_true rfl, Nat.le_of_ble_eq_true rfl⟩ rfl rfl (Nat.le_of_ble_eq_true rfl) ⟨Nat.le_refl 0, Nat.le_refl 0⟩ (fun r M h => ?_)
    exact a_iret dX4_assessed_39 ⟨_, rfl, h⟩
  · refine em_c h (fun c1 h => ?_) (fun c1 h => ?_)
    · refine a_tableIn (off := 39) (tgt := 40) dX4_assessed_1 (by rw [c1]; decide) (by rw [c1]; decide) (by rw [c1]; rfl) (by decide) ?_
      refine a_aload_n dX4_assessed_40 0 rfl ?_
      refine a_get2 dX4_assessed_41 0 (by decide) (tbc _ kF_RX4_10) (fun w h => tbc _ (uW2 w h)) rfl ob_0 rfl ?_
      refine a_callVi (n := 0) [] (C := RX0) (ci := 0) (qc := (RX0, TX0, 9)) (fsF := fl0 G _) ob_1.1 (fun _ => en0 ob_1.2) rfl rfl dX4_assessed_44 (s0_dearest ob_1 h) (gV tbc kM_RX4_218_X0_dearest kI_X0_dearest kS_X0_dearest kN_RX0 kC_X0_dearest) rfl (by decide +kernel) ⟨Nat.le_of_ble_eq_true rfl, Nat.le_of_ble_eq_true rfl⟩ rfl rfl (Nat.le_of_ble_eq_true rfl) ⟨Nat.le_refl 0, Nat.le_refl 0⟩ (fun r M h => ?_)
      exact a_iret dX4_assessed_47 ⟨_, rfl, h⟩
    · refine em_c h (fun c2 h => ?_) (fun c2 h => ?_)
      · refine a_tableIn (off := 47) (tgt := 48) dX4_assessed_1 (by rw [c2]; decide) (by rw [c2]; decide) (by rw [c2]; rfl) (by decide) ?_
        refine a_iconst (v := 0) dX4_assessed_48 (by decide) ?_
        refine a_aload_n dX4_assessed_49 0 rfl ?_
        refine a_get2 dX4_assessed_50 0 (by decide) (tbc _ kF_RX4_10) (fun w h => tbc _ (uW2 w h)) rfl ob_0 rfl ?_
        refine a_getN0 dX4_assessed_53 8 (by decide) (fun _ h => h.2.1) (fun w h => tbc _ (uW0 w h)) rfl ob_1 rfl ?_
        refine a_aload_n dX4_assessed_56 0 rfl ?_
        refine a_get2 dX4_assessed_57 0 (by decide) (tbc _ kF_RX4_10) (fun w h => tbc _ (uW2 w h)) rfl ob_0 rfl ?_
        refine a_getN0 dX4_assessed_60 7 (by decide) (fun _ h => h.2.2.2.1) (fun w h => tbc _ (uW0 w h)) rfl ob_1 rfl ?_
        refine a_isub dX4_assessed_63 ?_
        refine a_mmax dX4_assessed_64 (tbc _ kM_RX4_221_Lib_Math_max_name) (tbc _ kT_Lib_Math_max_name) (tbc _ kN_Math) (tbc _ kC_Lib_Math_max_name) (Nat.le_of_ble_eq_true rfl) (Nat.le_of_ble_eq_true rfl) (Nat.le_refl 0) (Nat.le_refl 0) ?_
        exact a_iret dX4_assessed_67 ⟨_, rfl, h⟩
      · refine em_c h (fun c3 h => ?_) (fun c3 h => ?_)
        · refine a_tableIn (off := 67) (tgt := 68) dX4_assessed_1 (by rw [c3]; decide) (by rw [c3]; decide) (by rw [c3]; rfl) (by decide) ?_
          refine a_aload_n dX4_assessed_68 0 rfl ?_
          refine a_get2 dX4_assessed_69 0 (by decide) (tbc _ kF_RX4_10) (fun w h => tbc _ (uW2 w h)) rfl ob_0 rfl ?_
          refine a_aload_n dX4_assessed_72 0 rfl ?_
          refine a_get2 dX4_assessed_73 0 (by decide) (tbc _ kF_RX4_10) (fun w h => tbc _ (uW2 w h)) rfl ob_0 rfl ?_
          refine a_iconst (v := 5) dX4_assessed_76 (by decide) ?_
          refine a_callVi (n := 1) [.int _] (C := RX0) (ci := 0) (qc := (RX0, TX0, 9)) (fsF := fl0 G _) ob_1.1 (fun _ => en0 ob_1.2) rfl rfl dX4_assessed_77 (s0_wetAt ob_1 h) (gV tbc kM_RX4_226_X0_wetAt kI_X0_wetAt kS_X0_wetAt kN_RX0 kC_X0_wetAt) rfl (by decide +kernel) ⟨Nat.le_of_ble_eq_true rfl, Nat.le_of_ble_eq_true rfl⟩ rfl rfl (Nat.le_of_ble_eq_true rfl) ⟨Nat.le_refl 0, Nat.le_refl 0⟩ (fun r M h => ?_)
          refine a_callVi (n := 1) [.int _] (C := RX0) (ci := 0) (qc := (RX0, TX0, 9)) (fsF := fl0 G _) ob_1.1 (fun _ => en0 ob_1.2) rfl rfl dX4_assessed_80 (s0_dryWorks ob_1 h) (gV tbc kM_RX4_229_X0_dryWorks kI_X0_dryWorks kS_X0_dryWorks kN_RX0 kC_X0_dryWorks) rfl (by decide +kernel) ⟨Nat.le_of_ble_eq_true rfl, Nat.le_of_ble_eq_true rfl⟩ rfl rfl (Nat.le_of_ble_eq_true rfl) ⟨Nat.le_refl 0, Nat.le_refl 0⟩ (fun r M h => ?_)
          exact a_iret dX4_assessed_83 ⟨_, rfl, h⟩
        · refine a_tableD (tgt := 84) dX4_assessed_1 (by decide) (fun k h1 h2 e => by have hk : k = 0 ∨ k = 1 ∨ k = 2 ∨ k = 3 := (by omega); rcases hk with rfl | rfl | rfl | rfl <;> first | rfl | exact absurd e (ne_ti c0 (by decide)) | exact absurd e (ne_ti c1 (by decide)) | exact absurd e (ne_ti c2 (by decide)) | exact absurd e (ne_ti c3 (by decide))) ?_
          refine a_aload_n dX4_assessed_84 0 rfl ?_
          refine a_bipush (v := -2) dX4_assessed_85 (by decide) ?_
          refine a_callVi (n := 1) [.int _] (C := RX4) (ci := 2) (qc := (RX4, TX4, 12)) (fsF := fl2 G _) ob_0.1 (fun _ => en2 ob_0.2) rfl rfl dX4_assessed_87 (s4_refused h) (gV tbc kM_RX4_43_X4_refused kI_X4_refused kS_X4_refused kN_RX4 kC_X4_refused) rfl (by decide +kernel) ⟨Nat.le_of_ble_eq_true rfl, Nat.le_of_ble_eq_true rfl⟩ rfl rfl (Nat.le_of_ble_eq_true rfl) ⟨Nat.le_refl 0, Nat.le_refl 0⟩ (fun r M h => ?_)
          exact a_iret dX4_assessed_90 ⟨_, rfl, h⟩

/-! X4_at -/
theorem dX4_at_0 : decode cX4_at 0 = .ok (.iload_n 1, 1) := by decide +kernel
theorem dX4_at_1 : decode cX4_at 1 = .ok (.invokestatic 114, 3) := by decide +kernel
theorem dX4_at_4 : decode cX4_at 4 = .ok (.ifCond .ne 9, 3) := by decide +kernel
theorem dX4_at_7 : decode cX4_at 7 = .ok (.aload_n 0, 1) := by decide +kernel
theorem dX4_at_8 : decode cX4_at 8 = .ok (.iconst (-1), 1) := by decide +kernel
theorem dX4_at_9 : decode cX4_at 9 = .ok (.invokevirtual 43, 3) := by decide +kernel
theorem dX4_at_12 : decode cX4_at 12 = .ok (.ireturn, 1) := by decide +kernel
theorem dX4_at_13 : decode cX4_at 13 = .ok (.aload_n 0, 1) := by decide +kernel
theorem dX4_at_14 : decode cX4_at 14 = .ok (.getfield 10, 3) := by decide +kernel
theorem dX4_at_17 : decode cX4_at 17 = .ok (.iload_n 1, 1) := by decide +kernel
theorem dX4_at_18 : decode cX4_at 18 = .ok (.invokevirtual 117, 3) := by decide +kernel
theorem dX4_at_21 : decode cX4_at 21 = .ok (.ireturn, 1) := by decide +kernel
abbrev A4_at (G : GG) (Q : Int32 → MM → Prop) := AW G E0 (MZ G (qI Q)) (WY yX4_at cX4_at 2 (some .int)) RX4 cX4_at 2 (some .int) ({ frames := 2, cells := 0, slots := 0, locals := 43 } : Room) 0 0
def D4_at (x1 : Int32) (M : MM) (Q : Int32 → MM → Prop) : Prop := D4_isCell x1 M (fun (r1 : Int32) (M2 : MM) => ((r1 ≠ 0 → D0_workIn 1 x1 M2 (fun (r3 : Int32) (M4 : MM) => Q r3 M4)) ∧ (r1 = 0 → D4_refused (-1 : Int32) M2 (fun (r5 : Int32) (M6 : MM) => Q r5 M6))))
set_option maxHeartbeats 4000000 in
set_option maxRecDepth 100000 in
theorem s4_at {G : GG} {x1 : Int32} {M : MM} {Q : Int32 → MM → Prop} (h : D4_at x1 M Q) : CM G yX4_at (WY yX4_at cX4_at 2 (some .int)) 2 43 [.ref (gA G 0), .int x1] M (qI Q) := by
  refine CM.of (cc := cX4_at) (nL := 2) (ret := (some .int)) (own := RX4) (by decide +kernel) rfl rfl (Nat.le_of_ble_eq_true rfl) ?_
  show A4_at G Q 0 [(0, .ref (gA G 0)), (1, .int x1)] [] M
  unfold D4_at at h
  refine a_iload_n dX4_at_0 1 rfl ?_
  refine a_callSi (n := 1) [.int _] dX4_at_1 (s4_isCell h) (gS tbc kM_RX4_114_X4_isCell kT_X4_isCell kN_RX4 kC_X4_isCell) rfl (by decide +kernel) ⟨Nat.le_of_ble_eq_true rfl, Nat.le_of_ble_eq_true rfl⟩ rfl rfl (Nat.le_of_ble_eq_true rfl) ⟨Nat.le_refl 0, Nat.le_refl 0⟩ (fun r M h => ?_)
  refine a_if_ne (tgt := 13) dX4_at_4 (by decide) (fun c => ?_) (fun c => ?_)
  · have h := h.1 c
    refine a_aload_n dX4_at_13 0 rfl ?_
    refine a_get2 dX4_at_14 0 (by decide) (tbc _ kF_RX4_10) (fun w h => tbc _ (uW2 w h)) rfl ob_0 rfl ?_
    refine a_iload_n dX4_at_17 1 rfl ?_
    refine a_callVi (n := 1) [.int _] (C := RX0) (ci := 0) (qc := (RX0, TX0, 9)) (fsF := fl0 G _) ob_1.1 (fun _ => en0 ob_1.2) rfl rfl dX4_at_18 (s0_workIn ob_1 h) (gV tbc kM_RX4_117_X0_workIn kI_X0_workIn kS_X0_workIn kN_RX0 kC_X0_workIn) rfl (by decide +kernel) ⟨Nat.le_of_ble_eq_true rfl, Nat.le_of_ble_eq_true rfl⟩ rfl rfl (Nat.le_of_ble_eq_true rfl) ⟨Nat.le_refl 0, Nat.le_refl 0⟩ (fun r M h => ?_)
    exact a_iret dX4_at_21 ⟨_, rfl, h⟩
  · have h := h.2 c
    refine a_aload_n dX4_at_7 0 rfl ?_
    refine a_iconst (v := -1) dX4_at_8 (by decide) ?_
    refine a_callVi (n := 1) [.int _] (C := RX4) (ci := 2) (qc := (RX4, TX4, 12)) (fsF := fl2 G _) ob_0.1 (fun _ => en2 ob_0.2) rfl rfl dX4_at_9 (s4_refused h) (gV tbc kM_RX4_43_X4_refused kI_X4_refused kS_X4_refused kN_RX4 kC_X4_refused) rfl (by decide +kernel) ⟨Nat.le_of_ble_eq_true rfl, Nat.le_of_ble_eq_true rfl⟩ rfl rfl (Nat.le_of_ble_eq_true rfl) ⟨Nat.le_refl 0, Nat.le_refl 0⟩ (fun r M h => ?_)
    exact a_iret dX4_at_12 ⟨_, rfl, h⟩

/-! X4_earlierAt -/
theorem dX4_earlierAt_0 : decode cX4_earlierAt 0 = .ok (.iload_n 1, 1) := by decide +kernel
theorem dX4_earlierAt_1 : decode cX4_earlierAt 1 = .ok (.ifCond .lt 18, 3) := by decide +kernel
theorem dX4_earlierAt_4 : decode cX4_earlierAt 4 = .ok (.iload_n 1, 1) := by decide +kernel
theorem dX4_earlierAt_5 : decode cX4_earlierAt 5 = .ok (.bipush 8, 2) := by decide +kernel
theorem dX4_earlierAt_7 : decode cX4_earlierAt 7 = .ok (.if_icmp .ge 12, 3) := by decide +kernel
theorem dX4_earlierAt_10 : decode cX4_earlierAt 10 = .ok (.aload_n 0, 1) := by decide +kernel
theorem dX4_earlierAt_11 : decode cX4_earlierAt 11 = .ok (.getfield 22, 3) := by decide +kernel
theorem dX4_earlierAt_14 : decode cX4_earlierAt 14 = .ok (.iload_n 1, 1) := by decide +kernel
theorem dX4_earlierAt_15 : decode cX4_earlierAt 15 = .ok (.aaload, 1) := by decide +kernel
theorem dX4_earlierAt_16 : decode cX4_earlierAt 16 = .ok (.goto 7, 3) := by decide +kernel
theorem dX4_earlierAt_19 : decode cX4_earlierAt 19 = .ok (.aload_n 0, 1) := by decide +kernel
theorem dX4_earlierAt_20 : decode cX4_earlierAt 20 = .ok (.getfield 10, 3) := by decide +kernel
theorem dX4_earlierAt_23 : decode cX4_earlierAt 23 = .ok (.astore_n 2, 1) := by decide +kernel
theorem dX4_earlierAt_24 : decode cX4_earlierAt 24 = .ok (.aload_n 2, 1) := by decide +kernel
theorem dX4_earlierAt_25 : decode cX4_earlierAt 25 = .ok (.ifnull 7, 3) := by decide +kernel
theorem dX4_earlierAt_28 : decode cX4_earlierAt 28 = .ok (.aload_n 2, 1) := by decide +kernel
theorem dX4_earlierAt_29 : decode cX4_earlierAt 29 = .ok (.goto 7, 3) := by decide +kernel
theorem dX4_earlierAt_32 : decode cX4_earlierAt 32 = .ok (.aload_n 0, 1) := by decide +kernel
theorem dX4_earlierAt_33 : decode cX4_earlierAt 33 = .ok (.getfield 10, 3) := by decide +kernel
theorem dX4_earlierAt_36 : decode cX4_earlierAt 36 = .ok (.areturn, 1) := by decide +kernel
abbrev A4_earlierAt (G : GG) (Q : Nat → MM → Prop) := AW G E0 (MZ G (qR G Q)) (WY yX4_earlierAt cX4_earlierAt 3 (some (.object "CastlesAreAssessed$Beach"))) RX4 cX4_earlierAt 3 (some (.object "CastlesAreAssessed$Beach")) ({ frames := 0, cells := 0, slots := 0, locals := 0 } : Room) 0 0
def D4_earlierAt_c23 (Q : Nat → MM → Prop) (s0 : Nat) (M : MM) : Prop := Q s0 M
def D4_earlierAt_c19 (Q : Nat → MM → Prop) (M : MM) : Prop := D4_earlierAt_c23 Q 1 M
def D4_earlierAt (x1 : Int32) (M : MM) (Q : Nat → MM → Prop) : Prop := ((x1 < 0 → D4_earlierAt_c19 Q M) ∧ (¬ x1 < 0 → (((8 : Int32) ≤ x1 → D4_earlierAt_c19 Q M) ∧ (¬ (8 : Int32) ≤ x1 → (vp_in x1 8 ∧ ob (16 + 5 * ix x1) 0) ∧ D4_earlierAt_c23 Q (16 + 5 * ix x1) M))))
set_option maxHeartbeats 4000000 in
set_option maxRecDepth 100000 in
theorem s4_earlierAt_c23 {G : GG} {Q : Nat → MM → Prop} : ∀ (s0 : Nat) (M : MM), ob s0 0 → D4_earlierAt_c23 Q s0 M → A4_earlierAt G Q 23 [(0, .ref (gA G 0))] [.ref (gA G s0)] M := by
  intro s0 M hs0 h
  unfold D4_earlierAt_c23 at h
  refine a_astore_n (i := 2) (L' := [(2, .ref _), (0, .ref _)]) dX4_earlierAt_23 rfl (by decide) rfl ?_
  refine a_aload_n dX4_earlierAt_24 0 rfl ?_
  refine a_ifnull dX4_earlierAt_25 ?_
  refine a_aload_n dX4_earlierAt_28 0 rfl ?_
  refine a_goto (tgt := 36) dX4_earlierAt_29 (by decide) ?_
  exact a_aret dX4_earlierAt_36 ⟨_, rfl, h⟩
set_option maxHeartbeats 4000000 in
set_option maxRecDepth 100000 in
theorem s4_earlierAt_c19 {G : GG} {Q : Nat → MM → Prop} : ∀  (M : MM), D4_earlierAt_c19 Q M → A4_earlierAt G Q 19 [(0, .ref (gA G 0))] [] M := by
  intro  M h
  unfold D4_earlierAt_c19 at h
  refine a_aload_n dX4_earlierAt_19 0 rfl ?_
  refine a_get2 dX4_earlierAt_20 0 (by decide) (tbc _ kF_RX4_10) (fun w h => tbc _ (uW2 w h)) rfl ob_0 rfl ?_
  refine a_sub [0] rfl ?_
  exact s4_earlierAt_c23 _ _ ob_1 h
set_option maxHeartbeats 4000000 in
set_option maxRecDepth 100000 in
theorem s4_earlierAt {G : GG} {x1 : Int32} {M : MM} {Q : Nat → MM → Prop} (h : D4_earlierAt x1 M Q) : CM G yX4_earlierAt (WY yX4_earlierAt cX4_earlierAt 3 (some (.object "CastlesAreAssessed$Beach"))) 0 0 [.ref (gA G 0), .int x1] M (qR G Q) := by
  refine CM.of (cc := cX4_earlierAt) (nL := 3) (ret := (some (.object "CastlesAreAssessed$Beach"))) (own := RX4) (by decide +kernel) rfl rfl (Nat.le_of_ble_eq_true rfl) ?_
  show A4_earlierAt G Q 0 [(0, .ref (gA G 0)), (1, .int x1)] [] M
  unfold D4_earlierAt at h
  refine a_iload_n dX4_earlierAt_0 1 rfl ?_
  refine a_if_lt (tgt := 19) dX4_earlierAt_1 (by decide) (fun c => ?_) (fun c => ?_)
  · have h := h.1 c
    refine a_sub [0] rfl ?_
    exact s4_earlierAt_c19 _ h
  · have h := h.2 c
    refine a_iload_n dX4_earlierAt_4 1 rfl ?_
    refine a_bipush (v := 8) dX4_earlierAt_5 (by decide) ?_
    refine a_icmp_ge (tgt := 19) dX4_earlierAt_7 (by decide) (fun c => ?_) (fun c => ?_)
    · have h := h.1 c
      refine a_sub [0] rfl ?_
      exact s4_earlierAt_c19 _ h
    · have h := h.2 c
      refine a_aload_n dX4_earlierAt_10 0 rfl ?_
      refine a_get2 dX4_earlierAt_11 3 (by decide) (tbc _ kF_RX4_22) (fun w h => tbc _ (uW2 w h)) rfl ob_0 rfl ?_
      refine a_iload_n dX4_earlierAt_14 1 rfl ?_
      have hy15 := h.1.2
      refine a_aald dX4_earlierAt_15 h.1.1 ?_
      have h := h.2
      refine a_goto (tgt := 23) dX4_earlierAt_16 (by decide) ?_
      refine a_sub [0] rfl ?_
      exact s4_earlierAt_c23 _ _ hy15 h

/-! X4_back -/
theorem dX4_back_0 : decode cX4_back 0 = .ok (.aload_n 0, 1) := by decide +kernel
theorem dX4_back_1 : decode cX4_back 1 = .ok (.getfield 76, 3) := by decide +kernel
theorem dX4_back_4 : decode cX4_back 4 = .ok (.ifCond .gt 10, 3) := by decide +kernel
theorem dX4_back_7 : decode cX4_back 7 = .ok (.aload_n 0, 1) := by decide +kernel
theorem dX4_back_8 : decode cX4_back 8 = .ok (.bipush (-3), 2) := by decide +kernel
theorem dX4_back_10 : decode cX4_back 10 = .ok (.invokevirtual 43, 3) := by decide +kernel
theorem dX4_back_13 : decode cX4_back 13 = .ok (.ireturn, 1) := by decide +kernel
theorem dX4_back_14 : decode cX4_back 14 = .ok (.aload_n 0, 1) := by decide +kernel
theorem dX4_back_15 : decode cX4_back 15 = .ok (.aload_n 0, 1) := by decide +kernel
theorem dX4_back_16 : decode cX4_back 16 = .ok (.getfield 161, 3) := by decide +kernel
theorem dX4_back_19 : decode cX4_back 19 = .ok (.bipush 8, 2) := by decide +kernel
theorem dX4_back_21 : decode cX4_back 21 = .ok (.iadd, 1) := by decide +kernel
theorem dX4_back_22 : decode cX4_back 22 = .ok (.iconst 1, 1) := by decide +kernel
theorem dX4_back_23 : decode cX4_back 23 = .ok (.isub, 1) := by decide +kernel
theorem dX4_back_24 : decode cX4_back 24 = .ok (.bipush 8, 2) := by decide +kernel
theorem dX4_back_26 : decode cX4_back 26 = .ok (.irem, 1) := by decide +kernel
theorem dX4_back_27 : decode cX4_back 27 = .ok (.putfield 161, 3) := by decide +kernel
theorem dX4_back_30 : decode cX4_back 30 = .ok (.aload_n 0, 1) := by decide +kernel
theorem dX4_back_31 : decode cX4_back 31 = .ok (.getfield 10, 3) := by decide +kernel
theorem dX4_back_34 : decode cX4_back 34 = .ok (.aload_n 0, 1) := by decide +kernel
theorem dX4_back_35 : decode cX4_back 35 = .ok (.aload_n 0, 1) := by decide +kernel
theorem dX4_back_36 : decode cX4_back 36 = .ok (.getfield 161, 3) := by decide +kernel
theorem dX4_back_39 : decode cX4_back 39 = .ok (.invokevirtual 164, 3) := by decide +kernel
theorem dX4_back_42 : decode cX4_back 42 = .ok (.invokevirtual 65, 3) := by decide +kernel
theorem dX4_back_45 : decode cX4_back 45 = .ok (.aload_n 0, 1) := by decide +kernel
theorem dX4_back_46 : decode cX4_back 46 = .ok (.dup, 1) := by decide +kernel
theorem dX4_back_47 : decode cX4_back 47 = .ok (.getfield 76, 3) := by decide +kernel
theorem dX4_back_50 : decode cX4_back 50 = .ok (.iconst 1, 1) := by decide +kernel
theorem dX4_back_51 : decode cX4_back 51 = .ok (.isub, 1) := by decide +kernel
theorem dX4_back_52 : decode cX4_back 52 = .ok (.putfield 76, 3) := by decide +kernel
theorem dX4_back_55 : decode cX4_back 55 = .ok (.aload_n 0, 1) := by decide +kernel
theorem dX4_back_56 : decode cX4_back 56 = .ok (.getfield 76, 3) := by decide +kernel
theorem dX4_back_59 : decode cX4_back 59 = .ok (.ireturn, 1) := by decide +kernel
abbrev A4_back (G : GG) (Q : Int32 → MM → Prop) := AW G E0 (MZ G (qI Q)) (WY yX4_back cX4_back 1 (some .int)) RX4 cX4_back 1 (some .int) ({ frames := 1, cells := 0, slots := 0, locals := 22 } : Room) 0 0
def D4_back (M : MM) (Q : Int32 → MM → Prop) : Prop := ((0 < (M 0 9) → (fun M1 : MM => D4_earlierAt (M1 0 10) M1 (fun (r2 : Nat) (M3 : MM) => ob r2 0 ∧ D0_becomes 1 r2 M3 (fun (M5 : MM) => (fun M6 : MM => Q (M6 0 9) M6) (up M5 0 9 ((M5 0 9) - (1 : Int32)))))) (up M 0 10 ((((M 0 10) + (8 : Int32)) - (1 : Int32)) - (((M 0 10) + (8 : Int32)) - (1 : Int32)) / (8 : Int32) * (8 : Int32)))) ∧ (¬ 0 < (M 0 9) → D4_refused (-3 : Int32) M (fun (r7 : Int32) (M8 : MM) => Q r7 M8)))
set_option maxHeartbeats 4000000 in
set_option maxRecDepth 100000 in
theorem s4_back {G : GG} {M : MM} {Q : Int32 → MM → Prop} (h : D4_back M Q) : CM G yX4_back (WY yX4_back cX4_back 1 (some .int)) 1 22 [.ref (gA G 0)] M (qI Q) := by
  refine CM.of (cc := cX4_back) (nL := 1) (ret := (some .int)) (own := RX4) (by decide +kernel) rfl rfl (Nat.le_of_ble_eq_true rfl) ?_
  show A4_back G Q 0 [(0, .ref (gA G 0))] [] M
  unfold D4_back at h
  refine a_aload_n dX4_back_0 0 rfl ?_
  refine a_get2 dX4_back_1 9 (by decide) (tbc _ kF_RX4_76) (fun w h => tbc _ (uW2 w h)) rfl ob_0 rfl ?_
  refine a_if_gt (tgt := 14) dX4_back_4 (by decide) (fun c => ?_) (fun c => ?_)
  · have h := h.1 c
    refine a_aload_n dX4_back_14 0 rfl ?_
    refine a_aload_n dX4_back_15 0 rfl ?_
    refine a_get2 dX4_back_16 10 (by decide) (tbc _ kF_RX4_161) (fun w h => tbc _ (uW2 w h)) rfl ob_0 rfl ?_
    refine a_bipush (v := 8) dX4_back_19 (by decide) ?_
    refine a_iadd dX4_back_21 ?_
    refine a_iconst (v := 1) dX4_back_22 (by decide) ?_
    refine a_isub dX4_back_23 ?_
    refine a_bipush (v := 8) dX4_back_24 (by decide) ?_
    refine a_irem dX4_back_26 (by decide) ?_
    refine a_put2 dX4_back_27 10 (by decide) (tbc _ kF_RX4_161) (fun w h => tbc _ (uW2 w h)) rfl rfl rfl rfl ob_0 fs2_10 ?_
    refine a_aload_n dX4_back_30 0 rfl ?_
    refine a_get2 dX4_back_31 0 (by decide) (tbc _ kF_RX4_10) (fun w h => tbc _ (uW2 w h)) rfl ob_0 rfl ?_
    refine a_aload_n dX4_back_34 0 rfl ?_
    refine a_aload_n dX4_back_35 0 rfl ?_
    refine a_get2 dX4_back_36 10 (by decide) (tbc _ kF_RX4_161) (fun w h => tbc _ (uW2 w h)) rfl ob_0 rfl ?_
    refine a_callVr (n := 1) [.int _] (C := RX4) (ci := 2) (qc := (RX4, TX4, 12)) (fsF := fl2 G _) ob_0.1 (fun _ => en2 ob_0.2) rfl rfl dX4_back_39 (s4_earlierAt h) (gV tbc kM_RX4_164_X4_earlierAt kI_X4_earlierAt kS_X4_earlierAt kN_RX4 kC_X4_earlierAt) rfl (by decide +kernel) ⟨Nat.le_of_ble_eq_true rfl, Nat.le_of_ble_eq_true rfl⟩ rfl rfl (Nat.le_of_ble_eq_true rfl) ⟨Nat.le_refl 0, Nat.le_refl 0⟩ (fun r M h => ?_)
    have hy39 := h.1
    have h := h.2
    refine a_callVv (n := 1) [.ref _] (C := RX0) (ci := 0) (qc := (RX0, TX0, 9)) (fsF := fl0 G _) ob_1.1 (fun _ => en0 ob_1.2) rfl rfl dX4_back_42 (s0_becomes ob_1 hy39 h) (gV tbc kM_RX4_65_X0_becomes kI_X0_becomes kS_X0_becomes kN_RX0 kC_X0_becomes) rfl (by decide +kernel) ⟨Nat.le_of_ble_eq_true rfl, Nat.le_of_ble_eq_true rfl⟩ rfl rfl (Nat.le_of_ble_eq_true rfl) ⟨Nat.le_refl 0, Nat.le_refl 0⟩ (fun M h => ?_)
    refine a_aload_n dX4_back_45 0 rfl ?_
    refine a_dup dX4_back_46 rfl ?_
    refine a_get2 dX4_back_47 9 (by decide) (tbc _ kF_RX4_76) (fun w h => tbc _ (uW2 w h)) rfl ob_0 rfl ?_
    refine a_iconst (v := 1) dX4_back_50 (by decide) ?_
    refine a_isub dX4_back_51 ?_
    refine a_put2 dX4_back_52 9 (by decide) (tbc _ kF_RX4_76) (fun w h => tbc _ (uW2 w h)) rfl rfl rfl rfl ob_0 fs2_9 ?_
    refine a_aload_n dX4_back_55 0 rfl ?_
    refine a_get2 dX4_back_56 9 (by decide) (tbc _ kF_RX4_76) (fun w h => tbc _ (uW2 w h)) rfl ob_0 rfl ?_
    exact a_iret dX4_back_59 ⟨_, rfl, h⟩
  · have h := h.2 c
    refine a_aload_n dX4_back_7 0 rfl ?_
    refine a_bipush (v := -3) dX4_back_8 (by decide) ?_
    refine a_callVi (n := 1) [.int _] (C := RX4) (ci := 2) (qc := (RX4, TX4, 12)) (fsF := fl2 G _) ob_0.1 (fun _ => en2 ob_0.2) rfl rfl dX4_back_10 (s4_refused h) (gV tbc kM_RX4_43_X4_refused kI_X4_refused kS_X4_refused kN_RX4 kC_X4_refused) rfl (by decide +kernel) ⟨Nat.le_of_ble_eq_true rfl, Nat.le_of_ble_eq_true rfl⟩ rfl rfl (Nat.le_of_ble_eq_true rfl) ⟨Nat.le_refl 0, Nat.le_refl 0⟩ (fun r M h => ?_)
    exact a_iret dX4_back_13 ⟨_, rfl, h⟩

/-! X4_beach -/
theorem dX4_beach_0 : decode cX4_beach 0 = .ok (.aload_n 0, 1) := by decide +kernel
theorem dX4_beach_1 : decode cX4_beach 1 = .ok (.getfield 29, 3) := by decide +kernel
theorem dX4_beach_4 : decode cX4_beach 4 = .ok (.invokevirtual 59, 3) := by decide +kernel
theorem dX4_beach_7 : decode cX4_beach 7 = .ok (.istore_n 1, 1) := by decide +kernel
theorem dX4_beach_8 : decode cX4_beach 8 = .ok (.iload_n 1, 1) := by decide +kernel
theorem dX4_beach_9 : decode cX4_beach 9 = .ok (.ifCond .lt 16, 3) := by decide +kernel
theorem dX4_beach_12 : decode cX4_beach 12 = .ok (.aload_n 0, 1) := by decide +kernel
theorem dX4_beach_13 : decode cX4_beach 13 = .ok (.getfield 29, 3) := by decide +kernel
theorem dX4_beach_16 : decode cX4_beach 16 = .ok (.invokevirtual 62, 3) := by decide +kernel
theorem dX4_beach_19 : decode cX4_beach 19 = .ok (.sipush (-1000), 3) := by decide +kernel
theorem dX4_beach_22 : decode cX4_beach 22 = .ok (.iload_n 1, 1) := by decide +kernel
theorem dX4_beach_23 : decode cX4_beach 23 = .ok (.isub, 1) := by decide +kernel
theorem dX4_beach_24 : decode cX4_beach 24 = .ok (.ireturn, 1) := by decide +kernel
theorem dX4_beach_25 : decode cX4_beach 25 = .ok (.aload_n 0, 1) := by decide +kernel
theorem dX4_beach_26 : decode cX4_beach 26 = .ok (.getfield 16, 3) := by decide +kernel
theorem dX4_beach_29 : decode cX4_beach 29 = .ok (.aload_n 0, 1) := by decide +kernel
theorem dX4_beach_30 : decode cX4_beach 30 = .ok (.getfield 10, 3) := by decide +kernel
theorem dX4_beach_33 : decode cX4_beach 33 = .ok (.invokevirtual 65, 3) := by decide +kernel
theorem dX4_beach_36 : decode cX4_beach 36 = .ok (.iconst 0, 1) := by decide +kernel
theorem dX4_beach_37 : decode cX4_beach 37 = .ok (.istore_n 2, 1) := by decide +kernel
theorem dX4_beach_38 : decode cX4_beach 38 = .ok (.iconst 0, 1) := by decide +kernel
theorem dX4_beach_39 : decode cX4_beach 39 = .ok (.istore_n 3, 1) := by decide +kernel
theorem dX4_beach_40 : decode cX4_beach 40 = .ok (.iload_n 3, 1) := by decide +kernel
theorem dX4_beach_41 : decode cX4_beach 41 = .ok (.bipush 96, 2) := by decide +kernel
theorem dX4_beach_43 : decode cX4_beach 43 = .ok (.if_icmp .ge 59, 3) := by decide +kernel
theorem dX4_beach_46 : decode cX4_beach 46 = .ok (.iload_n 2, 1) := by decide +kernel
theorem dX4_beach_47 : decode cX4_beach 47 = .ok (.aload_n 0, 1) := by decide +kernel
theorem dX4_beach_48 : decode cX4_beach 48 = .ok (.getfield 29, 3) := by decide +kernel
theorem dX4_beach_51 : decode cX4_beach 51 = .ok (.invokevirtual 55, 3) := by decide +kernel
theorem dX4_beach_54 : decode cX4_beach 54 = .ok (.if_icmp .ge 48, 3) := by decide +kernel
theorem dX4_beach_57 : decode cX4_beach 57 = .ok (.aload_n 0, 1) := by decide +kernel
theorem dX4_beach_58 : decode cX4_beach 58 = .ok (.getfield 29, 3) := by decide +kernel
theorem dX4_beach_61 : decode cX4_beach 61 = .ok (.iload_n 2, 1) := by decide +kernel
theorem dX4_beach_62 : decode cX4_beach 62 = .ok (.aload_n 0, 1) := by decide +kernel
theorem dX4_beach_63 : decode cX4_beach 63 = .ok (.getfield 16, 3) := by decide +kernel
theorem dX4_beach_66 : decode cX4_beach 66 = .ok (.invokevirtual 69, 3) := by decide +kernel
theorem dX4_beach_69 : decode cX4_beach 69 = .ok (.ifCond .ne 16, 3) := by decide +kernel
theorem dX4_beach_72 : decode cX4_beach 72 = .ok (.aload_n 0, 1) := by decide +kernel
theorem dX4_beach_73 : decode cX4_beach 73 = .ok (.getfield 29, 3) := by decide +kernel
theorem dX4_beach_76 : decode cX4_beach 76 = .ok (.invokevirtual 62, 3) := by decide +kernel
theorem dX4_beach_79 : decode cX4_beach 79 = .ok (.sipush (-2000), 3) := by decide +kernel
theorem dX4_beach_82 : decode cX4_beach 82 = .ok (.iload_n 2, 1) := by decide +kernel
theorem dX4_beach_83 : decode cX4_beach 83 = .ok (.isub, 1) := by decide +kernel
theorem dX4_beach_84 : decode cX4_beach 84 = .ok (.ireturn, 1) := by decide +kernel
theorem dX4_beach_85 : decode cX4_beach 85 = .ok (.iload_n 2, 1) := by decide +kernel
theorem dX4_beach_86 : decode cX4_beach 86 = .ok (.aload_n 0, 1) := by decide +kernel
theorem dX4_beach_87 : decode cX4_beach 87 = .ok (.getfield 29, 3) := by decide +kernel
theorem dX4_beach_90 : decode cX4_beach 90 = .ok (.iload_n 2, 1) := by decide +kernel
theorem dX4_beach_91 : decode cX4_beach 91 = .ok (.invokevirtual 73, 3) := by decide +kernel
theorem dX4_beach_94 : decode cX4_beach 94 = .ok (.iadd, 1) := by decide +kernel
theorem dX4_beach_95 : decode cX4_beach 95 = .ok (.istore_n 2, 1) := by decide +kernel
theorem dX4_beach_96 : decode cX4_beach 96 = .ok (.iinc 3 1, 3) := by decide +kernel
theorem dX4_beach_99 : decode cX4_beach 99 = .ok (.goto (-59), 3) := by decide +kernel
theorem dX4_beach_102 : decode cX4_beach 102 = .ok (.aload_n 0, 1) := by decide +kernel
theorem dX4_beach_103 : decode cX4_beach 103 = .ok (.getfield 10, 3) := by decide +kernel
theorem dX4_beach_106 : decode cX4_beach 106 = .ok (.aload_n 0, 1) := by decide +kernel
theorem dX4_beach_107 : decode cX4_beach 107 = .ok (.getfield 16, 3) := by decide +kernel
theorem dX4_beach_110 : decode cX4_beach 110 = .ok (.invokevirtual 65, 3) := by decide +kernel
theorem dX4_beach_113 : decode cX4_beach 113 = .ok (.aload_n 0, 1) := by decide +kernel
theorem dX4_beach_114 : decode cX4_beach 114 = .ok (.iconst 0, 1) := by decide +kernel
theorem dX4_beach_115 : decode cX4_beach 115 = .ok (.putfield 76, 3) := by decide +kernel
theorem dX4_beach_118 : decode cX4_beach 118 = .ok (.aload_n 0, 1) := by decide +kernel
theorem dX4_beach_119 : decode cX4_beach 119 = .ok (.getfield 29, 3) := by decide +kernel
theorem dX4_beach_122 : decode cX4_beach 122 = .ok (.invokevirtual 62, 3) := by decide +kernel
theorem dX4_beach_125 : decode cX4_beach 125 = .ok (.iload_n 3, 1) := by decide +kernel
theorem dX4_beach_126 : decode cX4_beach 126 = .ok (.ireturn, 1) := by decide +kernel
abbrev A4_beach (G : GG) (Q : Int32 → MM → Prop) := AW G E0 (MZ G (qI Q)) (WY yX4_beach cX4_beach 4 (some .int)) RX4 cX4_beach 4 (some .int) ({ frames := 6, cells := 0, slots := 0, locals := 139 } : Room) 0 0
def D4_beach_c72 (Q : Int32 → MM → Prop) (x2 : Int32) (M : MM) : Prop := D2_forget M (fun (M21 : MM) => Q ((-2000 : Int32) - x2) M21)
def D4_beach_c102 (Q : Int32 → MM → Prop) (x3 : Int32) (M : MM) : Prop := D0_becomes 1 6 M (fun (M16 : MM) => (fun M17 : MM => D2_forget M17 (fun (M19 : MM) => Q x3 M19)) (up M16 0 9 (0 : Int32)))
def D4_beach_c40 (Q : Int32 → MM → Prop) : Nat → Int32 → Int32 → MM → Prop
  | 0, _, _, _ => False
  | n + 1, x2, x3, M => (((96 : Int32) ≤ x3 → D4_beach_c102 Q x3 M) ∧ (¬ (96 : Int32) ≤ x3 → D2_size M (fun (r7 : Int32) (M8 : MM) => ((r7 ≤ x2 → D4_beach_c102 Q x3 M8) ∧ (¬ r7 ≤ x2 → D2_comes x2 6 M8 (fun (r9 : Int32) (M10 : MM) => ((r9 ≠ 0 → D2_lengthAt x2 M10 (fun (r11 : Int32) (M12 : MM) => (fun v13 : Int32 => (fun v14 : Int32 => D4_beach_c40 Q n v13 v14 M12) (x3 + (1 : Int32))) (x2 + r11))) ∧ (r9 = 0 → D4_beach_c72 Q x2 M10))))))))
def D4_beach (M : MM) (Q : Int32 → MM → Prop) : Prop := D2_lackPlace M (fun (r1 : Int32) (M2 : MM) => ((r1 < 0 → D0_becomes 6 1 M2 (fun (M4 : MM) => D4_beach_c40 Q FU (0 : Int32) (0 : Int32) M4)) ∧ (¬ r1 < 0 → D2_forget M2 (fun (M6 : MM) => Q ((-1000 : Int32) - r1) M6))))
set_option maxHeartbeats 4000000 in
set_option maxRecDepth 100000 in
theorem s4_beach_c72 {G : GG} {Q : Int32 → MM → Prop} : ∀ (x2 : Int32) (M : MM), D4_beach_c72 Q x2 M → A4_beach G Q 72 [(0, .ref (gA G 0)), (2, .int x2)] [] M := by
  intro x2 M h
  unfold D4_beach_c72 at h
  refine a_aload_n dX4_beach_72 0 rfl ?_
  refine a_get2 dX4_beach_73 4 (by decide) (tbc _ kF_RX4_29) (fun w h => tbc _ (uW2 w h)) rfl ob_0 rfl ?_
  refine a_callVv (n := 0) [] (C := RX2) (ci := 1) (qc := (RX2, TX2, 2)) (fsF := fl1 G _) ob_57.1 (fun _ => en1 ob_57.2) rfl rfl dX4_beach_76 (s2_forget h) (gV tbc kM_RX4_62_X2_forget kI_X2_forget kS_X2_forget kN_RX2 kC_X2_forget) rfl (by decide +kernel) ⟨Nat.le_of_ble_eq_true rfl, Nat.le_of_ble_eq_true rfl⟩ rfl rfl (Nat.le_of_ble_eq_true rfl) ⟨Nat.le_refl 0, Nat.le_refl 0⟩ (fun M h => ?_)
  refine a_sipush (v := -2000) dX4_beach_79 (by decide) ?_
  refine a_iload_n dX4_beach_82 1 rfl ?_
  refine a_isub dX4_beach_83 ?_
  exact a_iret dX4_beach_84 ⟨_, rfl, h⟩
set_option maxHeartbeats 4000000 in
set_option maxRecDepth 100000 in
theorem s4_beach_c102 {G : GG} {Q : Int32 → MM → Prop} : ∀ (x3 : Int32) (M : MM), D4_beach_c102 Q x3 M → A4_beach G Q 102 [(0, .ref (gA G 0)), (3, .int x3)] [] M := by
  intro x3 M h
  unfold D4_beach_c102 at h
  refine a_aload_n dX4_beach_102 0 rfl ?_
  refine a_get2 dX4_beach_103 0 (by decide) (tbc _ kF_RX4_10) (fun w h => tbc _ (uW2 w h)) rfl ob_0 rfl ?_
  refine a_aload_n dX4_beach_106 0 rfl ?_
  refine a_get2 dX4_beach_107 1 (by decide) (tbc _ kF_RX4_16) (fun w h => tbc _ (uW2 w h)) rfl ob_0 rfl ?_
  refine a_callVv (n := 1) [.ref _] (C := RX0) (ci := 0) (qc := (RX0, TX0, 9)) (fsF := fl0 G _) ob_1.1 (fun _ => en0 ob_1.2) rfl rfl dX4_beach_110 (s0_becomes ob_1 ob_6 h) (gV tbc kM_RX4_65_X0_becomes kI_X0_becomes kS_X0_becomes kN_RX0 kC_X0_becomes) rfl (by decide +kernel) ⟨Nat.le_of_ble_eq_true rfl, Nat.le_of_ble_eq_true rfl⟩ rfl rfl (Nat.le_of_ble_eq_true rfl) ⟨Nat.le_refl 0, Nat.le_refl 0⟩ (fun M h => ?_)
  refine a_aload_n dX4_beach_113 0 rfl ?_
  refine a_iconst (v := 0) dX4_beach_114 (by decide) ?_
  refine a_put2 dX4_beach_115 9 (by decide) (tbc _ kF_RX4_76) (fun w h => tbc _ (uW2 w h)) rfl rfl rfl rfl ob_0 fs2_9 ?_
  refine a_aload_n dX4_beach_118 0 rfl ?_
  refine a_get2 dX4_beach_119 4 (by decide) (tbc _ kF_RX4_29) (fun w h => tbc _ (uW2 w h)) rfl ob_0 rfl ?_
  refine a_callVv (n := 0) [] (C := RX2) (ci := 1) (qc := (RX2, TX2, 2)) (fsF := fl1 G _) ob_57.1 (fun _ => en1 ob_57.2) rfl rfl dX4_beach_122 (s2_forget h) (gV tbc kM_RX4_62_X2_forget kI_X2_forget kS_X2_forget kN_RX2 kC_X2_forget) rfl (by decide +kernel) ⟨Nat.le_of_ble_eq_true rfl, Nat.le_of_ble_eq_true rfl⟩ rfl rfl (Nat.le_of_ble_eq_true rfl) ⟨Nat.le_refl 0, Nat.le_refl 0⟩ (fun M h => ?_)
  refine a_iload_n dX4_beach_125 1 rfl ?_
  exact a_iret dX4_beach_126 ⟨_, rfl, h⟩
set_option maxHeartbeats 4000000 in
set_option maxRecDepth 100000 in
theorem s4_beach_c40 {G : GG} {Q : Int32 → MM → Prop} : ∀ (n : Nat) (x2 : Int32) (x3 : Int32) (M : MM), D4_beach_c40 Q n x2 x3 M → A4_beach G Q 40 [(0, .ref (gA G 0)), (2, .int x2), (3, .int x3)] [] M := by
  intro n
  induction n with
  | zero => intro x2 x3 M h; exact h.elim
  | succ n ih =>
    intro x2 x3 M h
    unfold D4_beach_c40 at h
    refine a_iload_n dX4_beach_40 2 rfl ?_
    refine a_bipush (v := 96) dX4_beach_41 (by decide) ?_
    refine a_icmp_ge (tgt := 102) dX4_beach_43 (by decide) (fun c => ?_) (fun c => ?_)
    · have h := h.1 c
      refine a_sub [0, 2] rfl ?_
      exact s4_beach_c102 _ _ h
    · have h := h.2 c
      refine a_iload_n dX4_beach_46 1 rfl ?_
      refine a_aload_n dX4_beach_47 0 rfl ?_
      refine a_get2 dX4_beach_48 4 (by decide) (tbc _ kF_RX4_29) (fun w h => tbc _ (uW2 w h)) rfl ob_0 rfl ?_
      refine a_callVi (n := 0) [] (C := RX2) (ci := 1) (qc := (RX2, TX2, 2)) (fsF := fl1 G _) ob_57.1 (fun _ => en1 ob_57.2) rfl rfl dX4_beach_51 (s2_size h) (gV tbc kM_RX4_55_X2_size kI_X2_size kS_X2_size kN_RX2 kC_X2_size) rfl (by decide +kernel) ⟨Nat.le_of_ble_eq_true rfl, Nat.le_of_ble_eq_true rfl⟩ rfl rfl (Nat.le_of_ble_eq_true rfl) ⟨Nat.le_refl 0, Nat.le_refl 0⟩ (fun r M h => ?_)
      refine a_icmp_ge (tgt := 102) dX4_beach_54 (by decide) (fun c => ?_) (fun c => ?_)
      · have h := h.1 c
        refine a_sub [0, 2] rfl ?_
        exact s4_beach_c102 _ _ h
      · have h := h.2 c
        refine a_aload_n dX4_beach_57 0 rfl ?_
        refine a_get2 dX4_beach_58 4 (by decide) (tbc _ kF_RX4_29) (fun w h => tbc _ (uW2 w h)) rfl ob_0 rfl ?_
        refine a_iload_n dX4_beach_61 1 rfl ?_
        refine a_aload_n dX4_beach_62 0 rfl ?_
        refine a_get2 dX4_beach_63 1 (by decide) (tbc _ kF_RX4_16) (fun w h => tbc _ (uW2 w h)) rfl ob_0 rfl ?_
        refine a_callVi (n := 2) [.int _, .ref _] (C := RX2) (ci := 1) (qc := (RX2, TX2, 2)) (fsF := fl1 G _) ob_57.1 (fun _ => en1 ob_57.2) rfl rfl dX4_beach_66 (s2_comes ob_6 h) (gV tbc kM_RX4_69_X2_comes kI_X2_comes kS_X2_comes kN_RX2 kC_X2_comes) rfl (by decide +kernel) ⟨Nat.le_of_ble_eq_true rfl, Nat.le_of_ble_eq_true rfl⟩ rfl rfl (Nat.le_of_ble_eq_true rfl) ⟨Nat.le_refl 0, Nat.le_refl 0⟩ (fun r M h => ?_)
        refine a_if_ne (tgt := 85) dX4_beach_69 (by decide) (fun c => ?_) (fun c => ?_)
        · have h := h.1 c
          refine a_iload_n dX4_beach_85 1 rfl ?_
          refine a_aload_n dX4_beach_86 0 rfl ?_
          refine a_get2 dX4_beach_87 4 (by decide) (tbc _ kF_RX4_29) (fun w h => tbc _ (uW2 w h)) rfl ob_0 rfl ?_
          refine a_iload_n dX4_beach_90 1 rfl ?_
          refine a_callVi (n := 1) [.int _] (C := RX2) (ci := 1) (qc := (RX2, TX2, 2)) (fsF := fl1 G _) ob_57.1 (fun _ => en1 ob_57.2) rfl rfl dX4_beach_91 (s2_lengthAt h) (gV tbc kM_RX4_73_X2_lengthAt kI_X2_lengthAt kS_X2_lengthAt kN_RX2 kC_X2_lengthAt) rfl (by decide +kernel) ⟨Nat.le_of_ble_eq_true rfl, Nat.le_of_ble_eq_true rfl⟩ rfl rfl (Nat.le_of_ble_eq_true rfl) ⟨Nat.le_refl 0, Nat.le_refl 0⟩ (fun r M h => ?_)
          refine a_iadd dX4_beach_94 ?_
          refine a_istore_n (i := 2) (L' := [(2, .int _), (0, .ref _), (3, .int _)]) dX4_beach_95 rfl (by decide) rfl ?_
          refine a_iinc (L' := [(3, .int _), (2, .int _), (0, .ref _)]) dX4_beach_96 2 rfl (show _ + Int32.ofInt (1 : Int) = _ + (1 : Int32) from rfl) (by decide) rfl ?_
          refine a_goto (tgt := 40) dX4_beach_99 (by decide) ?_
          refine a_sub [2, 1, 0] rfl ?_
          exact ih _ _ _ h
        · have h := h.2 c
          refine a_sub [0, 1] rfl ?_
          exact s4_beach_c72 _ _ h
set_option maxHeartbeats 4000000 in
set_option maxRecDepth 100000 in
theorem s4_beach {G : GG} {M : MM} {Q : Int32 → MM → Prop} (h : D4_beach M Q) : CM G yX4_beach (WY yX4_beach cX4_beach 4 (some .int)) 6 139 [.ref (gA G 0)] M (qI Q) := by
  refine CM.of (cc := cX4_beach) (nL := 4) (ret := (some .int)) (own := RX4) (by decide +kernel) rfl rfl (Nat.le_of_ble_eq_true rfl) ?_
  show A4_beach G Q 0 [(0, .ref (gA G 0))] [] M
  unfold D4_beach at h
  refine a_aload_n dX4_beach_0 0 rfl ?_
  refine a_get2 dX4_beach_1 4 (by decide) (tbc _ kF_RX4_29) (fun w h => tbc _ (uW2 w h)) rfl ob_0 rfl ?_
  refine a_callVi (n := 0) [] (C := RX2) (ci := 1) (qc := (RX2, TX2, 2)) (fsF := fl1 G _) ob_57.1 (fun _ => en1 ob_57.2) rfl rfl dX4_beach_4 (s2_lackPlace h) (gV tbc kM_RX4_59_X2_lackPlace kI_X2_lackPlace kS_X2_lackPlace kN_RX2 kC_X2_lackPlace) rfl (by decide +kernel) ⟨Nat.le_of_ble_eq_true rfl, Nat.le_of_ble_eq_true rfl⟩ rfl rfl (Nat.le_of_ble_eq_true rfl) ⟨Nat.le_refl 0, Nat.le_refl 0⟩ (fun r M h => ?_)
  refine a_istore_n (i := 1) (L' := [(1, .int _), (0, .ref _)]) dX4_beach_7 rfl (by decide) rfl ?_
  refine a_iload_n dX4_beach_8 0 rfl ?_
  refine a_if_lt (tgt := 25) dX4_beach_9 (by decide) (fun c => ?_) (fun c => ?_)
  · have h := h.1 c
    refine a_aload_n dX4_beach_25 1 rfl ?_
    refine a_get2 dX4_beach_26 1 (by decide) (tbc _ kF_RX4_16) (fun w h => tbc _ (uW2 w h)) rfl ob_0 rfl ?_
    refine a_aload_n dX4_beach_29 1 rfl ?_
    refine a_get2 dX4_beach_30 0 (by decide) (tbc _ kF_RX4_10) (fun w h => tbc _ (uW2 w h)) rfl ob_0 rfl ?_
    refine a_callVv (n := 1) [.ref _] (C := RX0) (ci := 0) (qc := (RX0, TX0, 9)) (fsF := fl0 G _) ob_6.1 (fun _ => en0 ob_6.2) rfl rfl dX4_beach_33 (s0_becomes ob_6 ob_1 h) (gV tbc kM_RX4_65_X0_becomes kI_X0_becomes kS_X0_becomes kN_RX0 kC_X0_becomes) rfl (by decide +kernel) ⟨Nat.le_of_ble_eq_true rfl, Nat.le_of_ble_eq_true rfl⟩ rfl rfl (Nat.le_of_ble_eq_true rfl) ⟨Nat.le_refl 0, Nat.le_refl 0⟩ (fun M h => ?_)
    refine a_iconst (v := 0) dX4_beach_36 (by decide) ?_
    refine a_istore_n (i := 2) (L' := [(2, .int _), (1, .int _), (0, .ref _)]) dX4_beach_37 rfl (by decide) rfl ?_
    refine a_iconst (v := 0) dX4_beach_38 (by decide) ?_
    refine a_istore_n (i := 3) (L' := [(3, .int _), (2, .int _), (1, .int _), (0, .ref _)]) dX4_beach_39 rfl (by decide) rfl ?_
    refine a_sub [3, 1, 0] rfl ?_
    exact s4_beach_c40 _ _ _ _ h
  · have h := h.2 c
    refine a_aload_n dX4_beach_12 1 rfl ?_
    refine a_get2 dX4_beach_13 4 (by decide) (tbc _ kF_RX4_29) (fun w h => tbc _ (uW2 w h)) rfl ob_0 rfl ?_
    refine a_callVv (n := 0) [] (C := RX2) (ci := 1) (qc := (RX2, TX2, 2)) (fsF := fl1 G _) ob_57.1 (fun _ => en1 ob_57.2) rfl rfl dX4_beach_16 (s2_forget h) (gV tbc kM_RX4_62_X2_forget kI_X2_forget kS_X2_forget kN_RX2 kC_X2_forget) rfl (by decide +kernel) ⟨Nat.le_of_ble_eq_true rfl, Nat.le_of_ble_eq_true rfl⟩ rfl rfl (Nat.le_of_ble_eq_true rfl) ⟨Nat.le_refl 0, Nat.le_refl 0⟩ (fun M h => ?_)
    refine a_sipush (v := -1000) dX4_beach_19 (by decide) ?_
    refine a_iload_n dX4_beach_22 0 rfl ?_
    refine a_isub dX4_beach_23 ?_
    exact a_iret dX4_beach_24 ⟨_, rfl, h⟩

/-! X4_best -/
theorem dX4_best_0 : decode cX4_best 0 = .ok (.iload_n 1, 1) := by decide +kernel
theorem dX4_best_1 : decode cX4_best 1 = .ok (.invokestatic 120, 3) := by decide +kernel
theorem dX4_best_4 : decode cX4_best 4 = .ok (.ifCond .eq 14, 3) := by decide +kernel
theorem dX4_best_7 : decode cX4_best 7 = .ok (.iload 4, 2) := by decide +kernel
theorem dX4_best_9 : decode cX4_best 9 = .ok (.ifCond .lt 9, 3) := by decide +kernel
theorem dX4_best_12 : decode cX4_best 12 = .ok (.iload 4, 2) := by decide +kernel
theorem dX4_best_14 : decode cX4_best 14 = .ok (.iconst 1, 1) := by decide +kernel
theorem dX4_best_15 : decode cX4_best 15 = .ok (.if_icmp .le 10, 3) := by decide +kernel
theorem dX4_best_18 : decode cX4_best 18 = .ok (.aload_n 0, 1) := by decide +kernel
theorem dX4_best_19 : decode cX4_best 19 = .ok (.bipush (-2), 2) := by decide +kernel
theorem dX4_best_21 : decode cX4_best 21 = .ok (.invokevirtual 43, 3) := by decide +kernel
theorem dX4_best_24 : decode cX4_best 24 = .ok (.ireturn, 1) := by decide +kernel
theorem dX4_best_25 : decode cX4_best 25 = .ok (.iload_n 2, 1) := by decide +kernel
theorem dX4_best_26 : decode cX4_best 26 = .ok (.ifCond .lt 7, 3) := by decide +kernel
theorem dX4_best_29 : decode cX4_best 29 = .ok (.iload_n 3, 1) := by decide +kernel
theorem dX4_best_30 : decode cX4_best 30 = .ok (.ifCond .ge 10, 3) := by decide +kernel
theorem dX4_best_33 : decode cX4_best 33 = .ok (.aload_n 0, 1) := by decide +kernel
theorem dX4_best_34 : decode cX4_best 34 = .ok (.bipush (-4), 2) := by decide +kernel
theorem dX4_best_36 : decode cX4_best 36 = .ok (.invokevirtual 43, 3) := by decide +kernel
theorem dX4_best_39 : decode cX4_best 39 = .ok (.ireturn, 1) := by decide +kernel
theorem dX4_best_40 : decode cX4_best 40 = .ok (.iload_n 2, 1) := by decide +kernel
theorem dX4_best_41 : decode cX4_best 41 = .ok (.bipush 10, 2) := by decide +kernel
theorem dX4_best_43 : decode cX4_best 43 = .ok (.if_icmp .ge 21, 3) := by decide +kernel
theorem dX4_best_46 : decode cX4_best 46 = .ok (.iload_n 3, 1) := by decide +kernel
theorem dX4_best_47 : decode cX4_best 47 = .ok (.bipush 60, 2) := by decide +kernel
theorem dX4_best_49 : decode cX4_best 49 = .ok (.if_icmp .gt 15, 3) := by decide +kernel
theorem dX4_best_52 : decode cX4_best 52 = .ok (.aload_n 0, 1) := by decide +kernel
theorem dX4_best_53 : decode cX4_best 53 = .ok (.getfield 10, 3) := by decide +kernel
theorem dX4_best_56 : decode cX4_best 56 = .ok (.getfield 123, 3) := by decide +kernel
theorem dX4_best_59 : decode cX4_best 59 = .ok (.bipush 8, 2) := by decide +kernel
theorem dX4_best_61 : decode cX4_best 61 = .ok (.if_icmp .lt 10, 3) := by decide +kernel
theorem dX4_best_64 : decode cX4_best 64 = .ok (.aload_n 0, 1) := by decide +kernel
theorem dX4_best_65 : decode cX4_best 65 = .ok (.bipush (-6), 2) := by decide +kernel
theorem dX4_best_67 : decode cX4_best 67 = .ok (.invokevirtual 43, 3) := by decide +kernel
theorem dX4_best_70 : decode cX4_best 70 = .ok (.ireturn, 1) := by decide +kernel
theorem dX4_best_71 : decode cX4_best 71 = .ok (.bipush (-9), 2) := by decide +kernel
theorem dX4_best_73 : decode cX4_best 73 = .ok (.istore 5, 2) := by decide +kernel
theorem dX4_best_75 : decode cX4_best 75 = .ok (.bipush (-9), 2) := by decide +kernel
theorem dX4_best_77 : decode cX4_best 77 = .ok (.istore 6, 2) := by decide +kernel
theorem dX4_best_79 : decode cX4_best 79 = .ok (.iconst 0, 1) := by decide +kernel
theorem dX4_best_80 : decode cX4_best 80 = .ok (.istore 7, 2) := by decide +kernel
theorem dX4_best_82 : decode cX4_best 82 = .ok (.iload 7, 2) := by decide +kernel
theorem dX4_best_84 : decode cX4_best 84 = .ok (.bipush 25, 2) := by decide +kernel
theorem dX4_best_86 : decode cX4_best 86 = .ok (.if_icmp .ge 76, 3) := by decide +kernel
theorem dX4_best_89 : decode cX4_best 89 = .ok (.aload_n 0, 1) := by decide +kernel
theorem dX4_best_90 : decode cX4_best 90 = .ok (.getfield 10, 3) := by decide +kernel
theorem dX4_best_93 : decode cX4_best 93 = .ok (.iload 7, 2) := by decide +kernel
theorem dX4_best_95 : decode cX4_best 95 = .ok (.invokevirtual 117, 3) := by decide +kernel
theorem dX4_best_98 : decode cX4_best 98 = .ok (.ifCond .ge 58, 3) := by decide +kernel
theorem dX4_best_101 : decode cX4_best 101 = .ok (.aload_n 0, 1) := by decide +kernel
theorem dX4_best_102 : decode cX4_best 102 = .ok (.getfield 16, 3) := by decide +kernel
theorem dX4_best_105 : decode cX4_best 105 = .ok (.aload_n 0, 1) := by decide +kernel
theorem dX4_best_106 : decode cX4_best 106 = .ok (.getfield 10, 3) := by decide +kernel
theorem dX4_best_109 : decode cX4_best 109 = .ok (.invokevirtual 65, 3) := by decide +kernel
theorem dX4_best_112 : decode cX4_best 112 = .ok (.aload_n 0, 1) := by decide +kernel
theorem dX4_best_113 : decode cX4_best 113 = .ok (.getfield 16, 3) := by decide +kernel
theorem dX4_best_116 : decode cX4_best 116 = .ok (.iload_n 1, 1) := by decide +kernel
theorem dX4_best_117 : decode cX4_best 117 = .ok (.iload_n 2, 1) := by decide +kernel
theorem dX4_best_118 : decode cX4_best 118 = .ok (.iload 7, 2) := by decide +kernel
theorem dX4_best_120 : decode cX4_best 120 = .ok (.invokevirtual 126, 3) := by decide +kernel
theorem dX4_best_123 : decode cX4_best 123 = .ok (.aload_n 0, 1) := by decide +kernel
theorem dX4_best_124 : decode cX4_best 124 = .ok (.getfield 16, 3) := by decide +kernel
theorem dX4_best_127 : decode cX4_best 127 = .ok (.iload_n 3, 1) := by decide +kernel
theorem dX4_best_128 : decode cX4_best 128 = .ok (.invokevirtual 155, 3) := by decide +kernel
theorem dX4_best_131 : decode cX4_best 131 = .ok (.aload_n 0, 1) := by decide +kernel
theorem dX4_best_132 : decode cX4_best 132 = .ok (.getfield 16, 3) := by decide +kernel
theorem dX4_best_135 : decode cX4_best 135 = .ok (.getfield 158, 3) := by decide +kernel
theorem dX4_best_138 : decode cX4_best 138 = .ok (.iload 6, 2) := by decide +kernel
theorem dX4_best_140 : decode cX4_best 140 = .ok (.if_icmp .le 16, 3) := by decide +kernel
theorem dX4_best_143 : decode cX4_best 143 = .ok (.iload 7, 2) := by decide +kernel
theorem dX4_best_145 : decode cX4_best 145 = .ok (.istore 5, 2) := by decide +kernel
theorem dX4_best_147 : decode cX4_best 147 = .ok (.aload_n 0, 1) := by decide +kernel
theorem dX4_best_148 : decode cX4_best 148 = .ok (.getfield 16, 3) := by decide +kernel
theorem dX4_best_151 : decode cX4_best 151 = .ok (.getfield 158, 3) := by decide +kernel
theorem dX4_best_154 : decode cX4_best 154 = .ok (.istore 6, 2) := by decide +kernel
theorem dX4_best_156 : decode cX4_best 156 = .ok (.iinc 7 1, 3) := by decide +kernel
theorem dX4_best_159 : decode cX4_best 159 = .ok (.goto (-77), 3) := by decide +kernel
theorem dX4_best_162 : decode cX4_best 162 = .ok (.iload 4, 2) := by decide +kernel
theorem dX4_best_164 : decode cX4_best 164 = .ok (.ifCond .ne 8, 3) := by decide +kernel
theorem dX4_best_167 : decode cX4_best 167 = .ok (.iload 5, 2) := by decide +kernel
theorem dX4_best_169 : decode cX4_best 169 = .ok (.goto 5, 3) := by decide +kernel
theorem dX4_best_172 : decode cX4_best 172 = .ok (.iload 6, 2) := by decide +kernel
theorem dX4_best_174 : decode cX4_best 174 = .ok (.ireturn, 1) := by decide +kernel
abbrev A4_best (G : GG) (Q : Int32 → MM → Prop) := AW G E0 (MZ G (qI Q)) (WY yX4_best cX4_best 8 (some .int)) RX4 cX4_best 8 (some .int) ({ frames := 4, cells := 0, slots := 0, locals := 94 } : Room) 0 0
def D4_best_c18 (Q : Int32 → MM → Prop) (M : MM) : Prop := D4_refused (-2 : Int32) M (fun (r3 : Int32) (M4 : MM) => Q r3 M4)
def D4_best_c33 (Q : Int32 → MM → Prop) (M : MM) : Prop := D4_refused (-4 : Int32) M (fun (r5 : Int32) (M6 : MM) => Q r5 M6)
def D4_best_c64 (Q : Int32 → MM → Prop) (M : MM) : Prop := D4_refused (-6 : Int32) M (fun (r7 : Int32) (M8 : MM) => Q r7 M8)
def D4_best_c156 (K82 : Int32 → Int32 → Int32 → Int32 → Int32 → Int32 → Int32 → MM → Prop) (Q : Int32 → MM → Prop) (x1 : Int32) (x2 : Int32) (x3 : Int32) (x4 : Int32) (x5 : Int32) (x6 : Int32) (x7 : Int32) (M : MM) : Prop := (fun v18 : Int32 => K82 x1 x2 x3 x4 x5 x6 v18 M) (x7 + (1 : Int32))
def D4_best_c162 (Q : Int32 → MM → Prop) (x4 : Int32) (x5 : Int32) (x6 : Int32) (M : MM) : Prop := ((x4 ≠ 0 → Q x6 M) ∧ (x4 = 0 → Q x5 M))
def D4_best_c82 (Q : Int32 → MM → Prop) : Nat → Int32 → Int32 → Int32 → Int32 → Int32 → Int32 → Int32 → MM → Prop
  | 0, _, _, _, _, _, _, _, _ => False
  | n + 1, x1, x2, x3, x4, x5, x6, x7, M => (((25 : Int32) ≤ x7 → D4_best_c162 Q x4 x5 x6 M) ∧ (¬ (25 : Int32) ≤ x7 → D0_workIn 1 x7 M (fun (r9 : Int32) (M10 : MM) => ((0 ≤ r9 → D4_best_c156 (D4_best_c82 Q n) Q x1 x2 x3 x4 x5 x6 x7 M10) ∧ (¬ 0 ≤ r9 → D0_becomes 6 1 M10 (fun (M12 : MM) => D0_builds 6 x1 x2 x7 M12 (fun (M14 : MM) => D0_goesOn 6 x3 M14 (fun (M16 : MM) => (((M16 6 7) ≤ x6 → D4_best_c156 (D4_best_c82 Q n) Q x1 x2 x3 x4 x5 x6 x7 M16) ∧ (¬ (M16 6 7) ≤ x6 → (fun v17 : Int32 => D4_best_c156 (D4_best_c82 Q n) Q x1 x2 x3 x4 x7 v17 x7 M16) (M16 6 7)))))))))))
def D4_best (x1 : Int32) (x2 : Int32) (x3 : Int32) (x4 : Int32) (M : MM) (Q : Int32 → MM → Prop) : Prop := D4_isKind x1 M (fun (r1 : Int32) (M2 : MM) => ((r1 = 0 → D4_best_c18 Q M2) ∧ (¬ r1 = 0 → ((x4 < 0 → D4_best_c18 Q M2) ∧ (¬ x4 < 0 → ((x4 ≤ (1 : Int32) → ((x2 < 0 → D4_best_c33 Q M2) ∧ (¬ x2 < 0 → ((0 ≤ x3 → (((10 : Int32) ≤ x2 → D4_best_c64 Q M2) ∧ (¬ (10 : Int32) ≤ x2 → (((60 : Int32) < x3 → D4_best_c64 Q M2) ∧ (¬ (60 : Int32) < x3 → (((M2 1 4) < (8 : Int32) → D4_best_c82 Q FU x1 x2 x3 x4 (-9 : Int32) (-9 : Int32) (0 : Int32) M2) ∧ (¬ (M2 1 4) < (8 : Int32) → D4_best_c64 Q M2))))))) ∧ (¬ 0 ≤ x3 → D4_best_c33 Q M2))))) ∧ (¬ x4 ≤ (1 : Int32) → D4_best_c18 Q M2)))))))
set_option maxHeartbeats 4000000 in
set_option maxRecDepth 100000 in
theorem s4_best_c18 {G : GG} {Q : Int32 → MM → Prop} : ∀  (M : MM), D4_best_c18 Q M → A4_best G Q 18 [(0, .ref (gA G 0))] [] M := by
  intro  M h
  unfold D4_best_c18 at h
  refine a_aload_n dX4_best_18 0 rfl ?_
  refine a_bipush (v := -2) dX4_best_19 (by decide) ?_
  refine a_callVi (n := 1) [.int _] (C := RX4) (ci := 2) (qc := (RX4, TX4, 12)) (fsF := fl2 G _) ob_0.1 (fun _ => en2 ob_0.2) rfl rfl dX4_best_21 (s4_refused h) (gV tbc kM_RX4_43_X4_refused kI_X4_refused kS_X4_refused kN_RX4 kC_X4_refused) rfl (by decide +kernel) ⟨Nat.le_of_ble_eq_true rfl, Nat.le_of_ble_eq_true rfl⟩ rfl rfl (Nat.le_of_ble_eq_true rfl) ⟨Nat.le_refl 0, Nat.le_refl 0⟩ (fun r M h => ?_)
  exact a_iret dX4_best_24 ⟨_, rfl, h⟩
set_option maxHeartbeats 4000000 in
set_option maxRecDepth 100000 in
theorem s4_best_c33 {G : GG} {Q : Int32 → MM → Prop} : ∀  (M : MM), D4_best_c33 Q M → A4_best G Q 33 [(0, .ref (gA G 0))] [] M := by
  intro  M h
  unfold D4_best_c33 at h
  refine a_aload_n dX4_best_33 0 rfl ?_
  refine a_bipush (v := -4) dX4_best_34 (by decide) ?_
  refine a_callVi (n := 1) [.int _] (C := RX4) (ci := 2) (qc := (RX4, TX4, 12)) (fsF := fl2 G _) ob_0.1 (fun _ => en2 ob_0.2) rfl rfl dX4_best_36 (s4_refused h) (gV tbc kM_RX4_43_X4_refused kI_X4_refused kS_X4_refused kN_RX4 kC_X4_refused) rfl (by decide +kernel) ⟨Nat.le_of_ble_eq_true rfl, Nat.le_of_ble_eq_true rfl⟩ rfl rfl (Nat.le_of_ble_eq_true rfl) ⟨Nat.le_refl 0, Nat.le_refl 0⟩ (fun r M h => ?_)
  exact a_iret dX4_best_39 ⟨_, rfl, h⟩
set_option maxHeartbeats 4000000 in
set_option maxRecDepth 100000 in
theorem s4_best_c64 {G : GG} {Q : Int32 → MM → Prop} : ∀  (M : MM), D4_best_c64 Q M → A4_best G Q 64 [(0, .ref (gA G 0))] [] M := by
  intro  M h
  unfold D4_best_c64 at h
  refine a_aload_n dX4_best_64 0 rfl ?_
  refine a_bipush (v := -6) dX4_best_65 (by decide) ?_
  refine a_callVi (n := 1) [.int _] (C := RX4) (ci := 2) (qc := (RX4, TX4, 12)) (fsF := fl2 G _) ob_0.1 (fun _ => en2 ob_0.2) rfl rfl dX4_best_67 (s4_refused h) (gV tbc kM_RX4_43_X4_refused kI_X4_refused kS_X4_refused kN_RX4 kC_X4_refused) rfl (by decide +kernel) ⟨Nat.le_of_ble_eq_true rfl, Nat.le_of_ble_eq_true rfl⟩ rfl rfl (Nat.le_of_ble_eq_true rfl) ⟨Nat.le_refl 0, Nat.le_refl 0⟩ (fun r M h => ?_)
  exact a_iret dX4_best_70 ⟨_, rfl, h⟩
set_option maxHeartbeats 4000000 in
set_option maxRecDepth 100000 in
theorem s4_best_c156 {G : GG} {K82 : Int32 → Int32 → Int32 → Int32 → Int32 → Int32 → Int32 → MM → Prop} {Q : Int32 → MM → Prop} (hK82 : ∀ (x1 : Int32) (x2 : Int32) (x3 : Int32) (x4 : Int32) (x5 : Int32) (x6 : Int32) (x7 : Int32) (M : MM), K82 x1 x2 x3 x4 x5 x6 x7 M → A4_best G Q 82 [(0, .ref (gA G 0)), (1, .int x1), (2, .int x2), (3, .int x3), (4, .int x4), (5, .int x5), (6, .int x6), (7, .int x7)] [] M) : ∀ (x1 : Int32) (x2 : Int32) (x3 : Int32) (x4 : Int32) (x5 : Int32) (x6 : Int32) (x7 : Int32) (M : MM), D4_best_c156 K82 Q x1 x2 x3 x4 x5 x6 x7 M → A4_best G Q 156 [(0, .ref (gA G 0)), (1, .int x1), (2, .int x2), (3, .int x3), (4, .int x4), (5, .int x5), (6, .int x6), (7, .int x7)] [] M := by
  intro x1 x2 x3 x4 x5 x6 x7 M h
  unfold D4_best_c156 at h
  refine a_iinc (L' := [(7, .int _), (0, .ref _), (1, .int _), (2, .int _), (3, .int _), (4, .int _), (5, .int _), (6, .int _)]) dX4_best_156 7 rfl (show _ + Int32.ofInt (1 : Int) = _ + (1 : Int32) from rfl) (by decide) rfl ?_
  refine a_goto (tgt := 82) dX4_best_159 (by decide) ?_
  refine a_sub [1, 2, 3, 4, 5, 6, 7, 0] rfl ?_
  exact hK82 _ _ _ _ _ _ _ _ h
set_option maxHeartbeats 4000000 in
set_option maxRecDepth 100000 in
theorem s4_best_c162 {G : GG} {Q : Int32 → MM → Prop} : ∀ (x4 : Int32) (x5 : Int32) (x6 : Int32) (M : MM), D4_best_c162 Q x4 x5 x6 M → A4_best G Q 162 [(4, .int x4), (5, .int x5), (6, .int x6)] [] M := by
  intro x4 x5 x6 M h
  unfold D4_best_c162 at h
  refine a_iload dX4_best_162 0 rfl ?_
  refine a_if_ne (tgt := 172) dX4_best_164 (by decide) (fun c => ?_) (fun c => ?_)
  · have h := h.1 c
    refine a_iload dX4_best_172 2 rfl ?_
    exact a_iret dX4_best_174 ⟨_, rfl, h⟩
  · have h := h.2 c
    refine a_iload dX4_best_167 1 rfl ?_
    refine a_goto (tgt := 174) dX4_best_169 (by decide) ?_
    exact a_iret dX4_best_174 ⟨_, rfl, h⟩
set_option maxHeartbeats 4000000 in
set_option maxRecDepth 100000 in
theorem s4_best_c82 {G : GG} {Q : Int32 → MM → Prop} : ∀ (n : Nat) (x1 : Int32) (x2 : Int32) (x3 : Int32) (x4 : Int32) (x5 : Int32) (x6 : Int32) (x7 : Int32) (M : MM), D4_best_c82 Q n x1 x2 x3 x4 x5 x6 x7 M → A4_best G Q 82 [(0, .ref (gA G 0)), (1, .int x1), (2, .int x2), (3, .int x3), (4, .int x4), (5, .int x5), (6, .int x6), (7, .int x7)] [] M := by
  intro n
  induction n with
  | zero => intro x1 x2 x3 x4 x5 x6 x7 M h; exact h.elim
  | succ n ih =>
    intro x1 x2 x3 x4 x5 x6 x7 M h
    unfold D4_best_c82 at h
    refine a_iload dX4_best_82 7 rfl ?_
    refine a_bipush (v := 25) dX4_best_84 (by decide) ?_
    refine a_icmp_ge (tgt := 162) dX4_best_86 (by decide) (fun c => ?_) (fun c => ?_)
    · have h := h.1 c
      refine a_sub [4, 5, 6] rfl ?_
      exact s4_best_c162 _ _ _ _ h
    · have h := h.2 c
      refine a_aload_n dX4_best_89 0 rfl ?_
      refine a_get2 dX4_best_90 0 (by decide) (tbc _ kF_RX4_10) (fun w h => tbc _ (uW2 w h)) rfl ob_0 rfl ?_
      refine a_iload dX4_best_93 7 rfl ?_
      refine a_callVi (n := 1) [.int _] (C := RX0) (ci := 0) (qc := (RX0, TX0, 9)) (fsF := fl0 G _) ob_1.1 (fun _ => en0 ob_1.2) rfl rfl dX4_best_95 (s0_workIn ob_1 h) (gV tbc kM_RX4_117_X0_workIn kI_X0_workIn kS_X0_workIn kN_RX0 kC_X0_workIn) rfl (by decide +kernel) ⟨Nat.le_of_ble_eq_true rfl, Nat.le_of_ble_eq_true rfl⟩ rfl rfl (Nat.le_of_ble_eq_true rfl) ⟨Nat.le_refl 0, Nat.le_refl 0⟩ (fun r M h => ?_)
      refine a_if_ge (tgt := 156) dX4_best_98 (by decide) (fun c => ?_) (fun c => ?_)
      · have h := h.1 c
        refine a_sub [0, 1, 2, 3, 4, 5, 6, 7] rfl ?_
        exact s4_best_c156 ih _ _ _ _ _ _ _ _ h
      · have h := h.2 c
        refine a_aload_n dX4_best_101 0 rfl ?_
        refine a_get2 dX4_best_102 1 (by decide) (tbc _ kF_RX4_16) (fun w h => tbc _ (uW2 w h)) rfl ob_0 rfl ?_
        refine a_aload_n dX4_best_105 0 rfl ?_
        refine a_get2 dX4_best_106 0 (by decide) (tbc _ kF_RX4_10) (fun w h => tbc _ (uW2 w h)) rfl ob_0 rfl ?_
        refine a_callVv (n := 1) [.ref _] (C := RX0) (ci := 0) (qc := (RX0, TX0, 9)) (fsF := fl0 G _) ob_6.1 (fun _ => en0 ob_6.2) rfl rfl dX4_best_109 (s0_becomes ob_6 ob_1 h) (gV tbc kM_RX4_65_X0_becomes kI_X0_becomes kS_X0_becomes kN_RX0 kC_X0_becomes) rfl (by decide +kernel) ⟨Nat.le_of_ble_eq_true rfl, Nat.le_of_ble_eq_true rfl⟩ rfl rfl (Nat.le_of_ble_eq_true rfl) ⟨Nat.le_refl 0, Nat.le_refl 0⟩ (fun M h => ?_)
        refine a_aload_n dX4_best_112 0 rfl ?_
        refine a_get2 dX4_best_113 1 (by decide) (tbc _ kF_RX4_16) (fun w h => tbc _ (uW2 w h)) rfl ob_0 rfl ?_
        refine a_iload_n dX4_best_116 1 rfl ?_
        refine a_iload_n dX4_best_117 2 rfl ?_
        refine a_iload dX4_best_118 7 rfl ?_
        refine a_callVv (n := 3) [.int _, .int _, .int _] (C := RX0) (ci := 0) (qc := (RX0, TX0, 9)) (fsF := fl0 G _) ob_6.1 (fun _ => en0 ob_6.2) rfl rfl dX4_best_120 (s0_builds ob_6 h) (gV tbc kM_RX4_126_X0_builds kI_X0_builds kS_X0_builds kN_RX0 kC_X0_builds) rfl (by decide +kernel) ⟨Nat.le_of_ble_eq_true rfl, Nat.le_of_ble_eq_true rfl⟩ rfl rfl (Nat.le_of_ble_eq_true rfl) ⟨Nat.le_refl 0, Nat.le_refl 0⟩ (fun M h => ?_)
        refine a_aload_n dX4_best_123 0 rfl ?_
        refine a_get2 dX4_best_124 1 (by decide) (tbc _ kF_RX4_16) (fun w h => tbc _ (uW2 w h)) rfl ob_0 rfl ?_
        refine a_iload_n dX4_best_127 3 rfl ?_
        refine a_callVv (n := 1) [.int _] (C := RX0) (ci := 0) (qc := (RX0, TX0, 9)) (fsF := fl0 G _) ob_6.1 (fun _ => en0 ob_6.2) rfl rfl dX4_best_128 (s0_goesOn ob_6 h) (gV tbc kM_RX4_155_X0_goesOn kI_X0_goesOn kS_X0_goesOn kN_RX0 kC_X0_goesOn) rfl (by decide +kernel) ⟨Nat.le_of_ble_eq_true rfl, Nat.le_of_ble_eq_true rfl⟩ rfl rfl (Nat.le_of_ble_eq_true rfl) ⟨Nat.le_refl 0, Nat.le_refl 0⟩ (fun M h => ?_)
        refine a_aload_n dX4_best_131 0 rfl ?_
        refine a_get2 dX4_best_132 1 (by decide) (tbc _ kF_RX4_16) (fun w h => tbc _ (uW2 w h)) rfl ob_0 rfl ?_
        refine a_getN0 dX4_best_135 7 (by decide) (fun _ h => h.2.2.2.1) (fun w h => tbc _ (uW0 w h)) rfl ob_6 rfl ?_
        refine a_iload dX4_best_138 6 rfl ?_
        refine a_icmp_le (tgt := 156) dX4_best_140 (by decide) (fun c => ?_) (fun c => ?_)
        · have h := h.1 c
          refine a_sub [0, 1, 2, 3, 4, 5, 6, 7] rfl ?_
          exact s4_best_c156 ih _ _ _ _ _ _ _ _ h
        · have h := h.2 c
          refine a_iload dX4_best_143 7 rfl ?_
          refine a_istore (i := 5) (L' := [(5, .int _), (0, .ref _), (1, .int _), (2, .int _), (3, .int _), (4, .int _), (6, .int _), (7, .int _)]) dX4_best_145 (by decide) rfl ?_
          refine a_aload_n dX4_best_147 1 rfl ?_
          refine a_get2 dX4_best_148 1 (by decide) (tbc _ kF_RX4_16) (fun w h => tbc _ (uW2 w h)) rfl ob_0 rfl ?_
          refine a_getN0 dX4_best_151 7 (by decide) (fun _ h => h.2.2.2.1) (fun w h => tbc _ (uW0 w h)) rfl ob_6 rfl ?_
          refine a_istore (i := 6) (L' := [(6, .int _), (5, .int _), (0, .ref _), (1, .int _), (2, .int _), (3, .int _), (4, .int _), (7, .int _)]) dX4_best_154 (by decide) rfl ?_
          refine a_sub [2, 3, 4, 5, 6, 1, 0, 7] rfl ?_
          exact s4_best_c156 ih _ _ _ _ _ _ _ _ h
set_option maxHeartbeats 4000000 in
set_option maxRecDepth 100000 in
theorem s4_best {G : GG} {x1 : Int32} {x2 : Int32} {x3 : Int32} {x4 : Int32} {M : MM} {Q : Int32 → MM → Prop} (h : D4_best x1 x2 x3 x4 M Q) : CM G yX4_best (WY yX4_best cX4_best 8 (some .int)) 4 94 [.ref (gA G 0), .int x1, .int x2, .int x3, .int x4] M (qI Q) := by
  refine CM.of (cc := cX4_best) (nL := 8) (ret := (some .int)) (own := RX4) (by decide +kernel) rfl rfl (Nat.le_of_ble_eq_true rfl) ?_
  show A4_best G Q 0 [(0, .ref (gA G 0)), (1, .int x1), (2, .int x2), (3, .int x3), (4, .int x4)] [] M
  unfold D4_best at h
  refine a_iload_n dX4_best_0 1 rfl ?_
  refine a_callSi (n := 1) [.int _] dX4_best_1 (s4_isKind h) (gS tbc kM_RX4_120_X4_isKind kT_X4_isKind kN_RX4 kC_X4_isKind) rfl (by decide +kernel) ⟨Nat.le_of_ble_eq_true rfl, Nat.le_of_ble_eq_true rfl⟩ rfl rfl (Nat.le_of_ble_eq_true rfl) ⟨Nat.le_refl 0, Nat.le_refl 0⟩ (fun r M h => ?_)
  refine a_if_eq (tgt := 18) dX4_best_4 (by decide) (fun c => ?_) (fun c => ?_)
  · have h := h.1 c
    refine a_sub [0] rfl ?_
    exact s4_best_c18 _ h
  · have h := h.2 c
    refine a_iload dX4_best_7 4 rfl ?_
    refine a_if_lt (tgt := 18) dX4_best_9 (by decide) (fun c => ?_) (fun c => ?_)
    · have h := h.1 c
      refine a_sub [0] rfl ?_
      exact s4_best_c18 _ h
    · have h := h.2 c
      refine a_iload dX4_best_12 4 rfl ?_
      refine a_iconst (v := 1) dX4_best_14 (by decide) ?_
      refine a_icmp_le (tgt := 25) dX4_best_15 (by decide) (fun c => ?_) (fun c => ?_)
      · have h := h.1 c
        refine a_iload_n dX4_best_25 2 rfl ?_
        refine a_if_lt (tgt := 33) dX4_best_26 (by decide) (fun c => ?_) (fun c => ?_)
        · have h := h.1 c
          refine a_sub [0] rfl ?_
          exact s4_best_c33 _ h
        · have h := h.2 c
          refine a_iload_n dX4_best_29 3 rfl ?_
          refine a_if_ge (tgt := 40) dX4_best_30 (by decide) (fun c => ?_) (fun c => ?_)
          · have h := h.1 c
            refine a_iload_n dX4_best_40 2 rfl ?_
            refine a_bipush (v := 10) dX4_best_41 (by decide) ?_
            refine a_icmp_ge (tgt := 64) dX4_best_43 (by decide) (fun c => ?_) (fun c => ?_)
            · have h := h.1 c
              refine a_sub [0] rfl ?_
              exact s4_best_c64 _ h
            · have h := h.2 c
              refine a_iload_n dX4_best_46 3 rfl ?_
              refine a_bipush (v := 60) dX4_best_47 (by decide) ?_
              refine a_icmp_gt (tgt := 64) dX4_best_49 (by decide) (fun c => ?_) (fun c => ?_)
              · have h := h.1 c
                refine a_sub [0] rfl ?_
                exact s4_best_c64 _ h
              · have h := h.2 c
                refine a_aload_n dX4_best_52 0 rfl ?_
                refine a_get2 dX4_best_53 0 (by decide) (tbc _ kF_RX4_10) (fun w h => tbc _ (uW2 w h)) rfl ob_0 rfl ?_
                refine a_getN0 dX4_best_56 4 (by decide) (fun _ h => h.1) (fun w h => tbc _ (uW0 w h)) rfl ob_1 rfl ?_
                refine a_bipush (v := 8) dX4_best_59 (by decide) ?_
                refine a_icmp_lt (tgt := 71) dX4_best_61 (by decide) (fun c => ?_) (fun c => ?_)
                · have h := h.1 c
                  refine a_bipush (v := -9) dX4_best_71 (by decide) ?_
                  refine a_istore (i := 5) (L' := [(5, .int _), (0, .ref _), (1, .int _), (2, .int _), (3, .int _), (4, .int _)]) dX4_best_73 (by decide) rfl ?_
                  refine a_bipush (v := -9) dX4_best_75 (by decide) ?_
                  refine a_istore (i := 6) (L' := [(6, .int _), (5, .int _), (0, .ref _), (1, .int _), (2, .int _), (3, .int _), (4, .int _)]) dX4_best_77 (by decide) rfl ?_
                  refine a_iconst (v := 0) dX4_best_79 (by decide) ?_
                  refine a_istore (i := 7) (L' := [(7, .int _), (6, .int _), (5, .int _), (0, .ref _), (1, .int _), (2, .int _), (3, .int _), (4, .int _)]) dX4_best_80 (by decide) rfl ?_
                  refine a_sub [3, 4, 5, 6, 7, 2, 1, 0] rfl ?_
                  exact s4_best_c82 _ _ _ _ _ _ _ _ _ h
                · have h := h.2 c
                  refine a_sub [0] rfl ?_
                  exact s4_best_c64 _ h
          · have h := h.2 c
            refine a_sub [0] rfl ?_
            exact s4_best_c33 _ h
      · have h := h.2 c
        refine a_sub [0] rfl ?_
        exact s4_best_c18 _ h

/-! X4_clear -/
theorem dX4_clear_0 : decode cX4_clear 0 = .ok (.aload_n 0, 1) := by decide +kernel
theorem dX4_clear_1 : decode cX4_clear 1 = .ok (.getfield 290, 3) := by decide +kernel
theorem dX4_clear_4 : decode cX4_clear 4 = .ok (.istore_n 1, 1) := by decide +kernel
theorem dX4_clear_5 : decode cX4_clear 5 = .ok (.aload_n 0, 1) := by decide +kernel
theorem dX4_clear_6 : decode cX4_clear 6 = .ok (.iconst 0, 1) := by decide +kernel
theorem dX4_clear_7 : decode cX4_clear 7 = .ok (.putfield 290, 3) := by decide +kernel
theorem dX4_clear_10 : decode cX4_clear 10 = .ok (.iload_n 1, 1) := by decide +kernel
theorem dX4_clear_11 : decode cX4_clear 11 = .ok (.ireturn, 1) := by decide +kernel
abbrev A4_clear (G : GG) (Q : Int32 → MM → Prop) := AW G E0 (MZ G (qI Q)) (WY yX4_clear cX4_clear 2 (some .int)) RX4 cX4_clear 2 (some .int) ({ frames := 0, cells := 0, slots := 0, locals := 0 } : Room) 0 0
def D4_clear (M : MM) (Q : Int32 → MM → Prop) : Prop := (fun v1 : Int32 => (fun M2 : MM => Q v1 M2) (up M 0 8 (0 : Int32))) (M 0 8)
set_option maxHeartbeats 4000000 in
set_option maxRecDepth 100000 in
theorem s4_clear {G : GG} {M : MM} {Q : Int32 → MM → Prop} (h : D4_clear M Q) : CM G yX4_clear (WY yX4_clear cX4_clear 2 (some .int)) 0 0 [.ref (gA G 0)] M (qI Q) := by
  refine CM.of (cc := cX4_clear) (nL := 2) (ret := (some .int)) (own := RX4) (by decide +kernel) rfl rfl (Nat.le_of_ble_eq_true rfl) ?_
  show A4_clear G Q 0 [(0, .ref (gA G 0))] [] M
  unfold D4_clear at h
  refine a_aload_n dX4_clear_0 0 rfl ?_
  refine a_get2 dX4_clear_1 8 (by decide) (tbc _ kF_RX4_290) (fun w h => tbc _ (uW2 w h)) rfl ob_0 rfl ?_
  refine a_istore_n (i := 1) (L' := [(1, .int _), (0, .ref _)]) dX4_clear_4 rfl (by decide) rfl ?_
  refine a_aload_n dX4_clear_5 1 rfl ?_
  refine a_iconst (v := 0) dX4_clear_6 (by decide) ?_
  refine a_put2 dX4_clear_7 8 (by decide) (tbc _ kF_RX4_290) (fun w h => tbc _ (uW2 w h)) rfl rfl rfl rfl ob_0 fs2_8 ?_
  refine a_iload_n dX4_clear_10 0 rfl ?_
  exact a_iret dX4_clear_11 ⟨_, rfl, h⟩

/-! X4_count -/
theorem dX4_count_0 : decode cX4_count 0 = .ok (.iload_n 1, 1) := by decide +kernel
theorem dX4_count_1 : decode cX4_count 1 = .ok (.tableswitch 117 0 8 #[51, 59, 67, 75, 83, 91, 99, 107, 112], 51) := by decide +kernel
theorem dX4_count_52 : decode cX4_count 52 = .ok (.aload_n 0, 1) := by decide +kernel
theorem dX4_count_53 : decode cX4_count 53 = .ok (.getfield 10, 3) := by decide +kernel
theorem dX4_count_56 : decode cX4_count 56 = .ok (.getfield 123, 3) := by decide +kernel
theorem dX4_count_59 : decode cX4_count 59 = .ok (.ireturn, 1) := by decide +kernel
theorem dX4_count_60 : decode cX4_count 60 = .ok (.aload_n 0, 1) := by decide +kernel
theorem dX4_count_61 : decode cX4_count 61 = .ok (.getfield 10, 3) := by decide +kernel
theorem dX4_count_64 : decode cX4_count 64 = .ok (.getfield 152, 3) := by decide +kernel
theorem dX4_count_67 : decode cX4_count 67 = .ok (.ireturn, 1) := by decide +kernel
theorem dX4_count_68 : decode cX4_count 68 = .ok (.aload_n 0, 1) := by decide +kernel
theorem dX4_count_69 : decode cX4_count 69 = .ok (.getfield 10, 3) := by decide +kernel
theorem dX4_count_72 : decode cX4_count 72 = .ok (.getfield 158, 3) := by decide +kernel
theorem dX4_count_75 : decode cX4_count 75 = .ok (.ireturn, 1) := by decide +kernel
theorem dX4_count_76 : decode cX4_count 76 = .ok (.aload_n 0, 1) := by decide +kernel
theorem dX4_count_77 : decode cX4_count 77 = .ok (.getfield 10, 3) := by decide +kernel
theorem dX4_count_80 : decode cX4_count 80 = .ok (.getfield 146, 3) := by decide +kernel
theorem dX4_count_83 : decode cX4_count 83 = .ok (.ireturn, 1) := by decide +kernel
theorem dX4_count_84 : decode cX4_count 84 = .ok (.aload_n 0, 1) := by decide +kernel
theorem dX4_count_85 : decode cX4_count 85 = .ok (.getfield 10, 3) := by decide +kernel
theorem dX4_count_88 : decode cX4_count 88 = .ok (.getfield 183, 3) := by decide +kernel
theorem dX4_count_91 : decode cX4_count 91 = .ok (.ireturn, 1) := by decide +kernel
theorem dX4_count_92 : decode cX4_count 92 = .ok (.aload_n 0, 1) := by decide +kernel
theorem dX4_count_93 : decode cX4_count 93 = .ok (.getfield 10, 3) := by decide +kernel
theorem dX4_count_96 : decode cX4_count 96 = .ok (.invokevirtual 180, 3) := by decide +kernel
theorem dX4_count_99 : decode cX4_count 99 = .ok (.ireturn, 1) := by decide +kernel
theorem dX4_count_100 : decode cX4_count 100 = .ok (.aload_n 0, 1) := by decide +kernel
theorem dX4_count_101 : decode cX4_count 101 = .ok (.getfield 29, 3) := by decide +kernel
theorem dX4_count_104 : decode cX4_count 104 = .ok (.invokevirtual 55, 3) := by decide +kernel
theorem dX4_count_107 : decode cX4_count 107 = .ok (.ireturn, 1) := by decide +kernel
theorem dX4_count_108 : decode cX4_count 108 = .ok (.aload_n 0, 1) := by decide +kernel
theorem dX4_count_109 : decode cX4_count 109 = .ok (.getfield 290, 3) := by decide +kernel
theorem dX4_count_112 : decode cX4_count 112 = .ok (.ireturn, 1) := by decide +kernel
theorem dX4_count_113 : decode cX4_count 113 = .ok (.aload_n 0, 1) := by decide +kernel
theorem dX4_count_114 : decode cX4_count 114 = .ok (.getfield 76, 3) := by decide +kernel
theorem dX4_count_117 : decode cX4_count 117 = .ok (.ireturn, 1) := by decide +kernel
theorem dX4_count_118 : decode cX4_count 118 = .ok (.iload_n 1, 1) := by decide +kernel
theorem dX4_count_119 : decode cX4_count 119 = .ok (.bipush 11, 2) := by decide +kernel
theorem dX4_count_121 : decode cX4_count 121 = .ok (.if_icmp .lt 21, 3) := by decide +kernel
theorem dX4_count_124 : decode cX4_count 124 = .ok (.iload_n 1, 1) := by decide +kernel
theorem dX4_count_125 : decode cX4_count 125 = .ok (.bipush 16, 2) := by decide +kernel
theorem dX4_count_127 : decode cX4_count 127 = .ok (.if_icmp .gt 15, 3) := by decide +kernel
theorem dX4_count_130 : decode cX4_count 130 = .ok (.aload_n 0, 1) := by decide +kernel
theorem dX4_count_131 : decode cX4_count 131 = .ok (.getfield 37, 3) := by decide +kernel
theorem dX4_count_134 : decode cX4_count 134 = .ok (.iload_n 1, 1) := by decide +kernel
theorem dX4_count_135 : decode cX4_count 135 = .ok (.bipush 10, 2) := by decide +kernel
theorem dX4_count_137 : decode cX4_count 137 = .ok (.isub, 1) := by decide +kernel
theorem dX4_count_138 : decode cX4_count 138 = .ok (.iaload, 1) := by decide +kernel
theorem dX4_count_139 : decode cX4_count 139 = .ok (.goto 5, 3) := by decide +kernel
theorem dX4_count_142 : decode cX4_count 142 = .ok (.bipush (-9), 2) := by decide +kernel
theorem dX4_count_144 : decode cX4_count 144 = .ok (.ireturn, 1) := by decide +kernel
abbrev A4_count (G : GG) (Q : Int32 → MM → Prop) := AW G E0 (MZ G (qI Q)) (WY yX4_count cX4_count 2 (some .int)) RX4 cX4_count 2 (some .int) ({ frames := 3, cells := 0, slots := 0, locals := 66 } : Room) 0 0
def D4_count (x1 : Int32) (M : MM) (Q : Int32 → MM → Prop) : Prop := ((x1 = 0 → Q (M 1 4) M) ∧ (¬ x1 = 0 → ((x1 = 1 → Q (M 1 6) M) ∧ (¬ x1 = 1 → ((x1 = 2 → Q (M 1 7) M) ∧ (¬ x1 = 2 → ((x1 = 3 → Q (M 1 8) M) ∧ (¬ x1 = 3 → ((x1 = 4 → Q (M 1 5) M) ∧ (¬ x1 = 4 → ((x1 = 5 → D0_wetNow 1 M (fun (r1 : Int32) (M2 : MM) => Q r1 M2)) ∧ (¬ x1 = 5 → ((x1 = 6 → D2_size M (fun (r3 : Int32) (M4 : MM) => Q r3 M4)) ∧ (¬ x1 = 6 → ((x1 = 7 → Q (M 0 8) M) ∧ (¬ x1 = 7 → ((x1 = 8 → Q (M 0 9) M) ∧ (¬ x1 = 8 → ((x1 < (11 : Int32) → Q (-9 : Int32) M) ∧ (¬ x1 < (11 : Int32) → (((16 : Int32) < x1 → Q (-9 : Int32) M) ∧ (¬ (16 : Int32) < x1 → ib 60 (x1 - (10 : Int32)) ∧ Q (M 60 (ix (x1 - (10 : Int32)))) M))))))))))))))))))))))
set_option maxHeartbeats 4000000 in
set_option maxRecDepth 100000 in
theorem s4_count {G : GG} {x1 : Int32} {M : MM} {Q : Int32 → MM → Prop} (h : D4_count x1 M Q) : CM G yX4_count (WY yX4_count cX4_count 2 (some .int)) 3 66 [.ref (gA G 0), .int x1] M (qI Q) := by
  refine CM.of (cc := cX4_count) (nL := 2) (ret := (some .int)) (own := RX4) (by decide +kernel) rfl rfl (Nat.le_of_ble_eq_true rfl) ?_
  show A4_count G Q 0 [(0, .ref (gA G 0)), (1, .int x1)] [] M
  unfold D4_count at h
  refine a_iload_n dX4_count_0 1 rfl ?_
  refine em_c h (fun c0 h => ?_) (fun c0 h => ?_)
  · refine a_tableIn (off := 51) (tgt := 52) dX4_count_1 (by rw [c0]; decide) (by rw [c0]; decide) (by rw [c0]; rfl) (by decide) ?_
    refine a_aload_n dX4_count_52 0 rfl ?_
    refine a_get2 dX4_count_53 0 (by decide) (tbc _ kF_RX4_10) (fun w h => tbc _ (uW2 w h)) rfl ob_0 rfl ?_
    refine a_getN0 dX4_count_56 4 (by decide) (fun _ h => h.1) (fun w h => tbc _ (uW0 w h)) rfl ob_1 rfl ?_
    exact a_iret dX4_count_59 ⟨_, rfl, h⟩
  · refine em_c h (fun c1 h => ?_) (fun c1 h => ?_)
    · refine a_tableIn (off := 59) (tgt := 60) dX4_count_1 (by rw [c1]; decide) (by rw [c1]; decide) (by rw [c1]; rfl) (by decide) ?_
      refine a_aload_n dX4_count_60 0 rfl ?_
      refine a_get2 dX4_count_61 0 (by decide) (tbc _ kF_RX4_10) (fun w h => tbc _ (uW2 w h)) rfl ob_0 rfl ?_
      refine a_getN0 dX4_count_64 6 (by decide) (fun _ h => h.2.2.1) (fun w h => tbc _ (uW0 w h)) rfl ob_1 rfl ?_
      exact a_iret dX4_count_67 ⟨_, rfl, h⟩
    · refine em_c h (fun c2 h => ?_) (fun c2 h => ?_)
      · refine a_tableIn (off := 67) (tgt := 68) dX4_count_1 (by rw [c2]; decide) (by rw [c2]; decide) (by rw [c2]; rfl) (by decide) ?_
        refine a_aload_n dX4_count_68 0 rfl ?_
        refine a_get2 dX4_count_69 0 (by decide) (tbc _ kF_RX4_10) (fun w h => tbc _ (uW2 w h)) rfl ob_0 rfl ?_
        refine a_getN0 dX4_count_72 7 (by decide) (fun _ h => h.2.2.2.1) (fun w h => tbc _ (uW0 w h)) rfl ob_1 rfl ?_
        exact a_iret dX4_count_75 ⟨_, rfl, h⟩
      · refine em_c h (fun c3 h => ?_) (fun c3 h => ?_)
        · refine a_tableIn (off := 75) (tgt := 76) dX4_count_1 (by rw [c3]; decide) (by rw [c3]; decide) (by rw [c3]; rfl) (by decide) ?_
          refine a_aload_n dX4_count_76 0 rfl ?_
          refine a_get2 dX4_count_77 0 (by decide) (tbc _ kF_RX4_10) (fun w h => tbc _ (uW2 w h)) rfl ob_0 rfl ?_
          refine a_getN0 dX4_count_80 8 (by decide) (fun _ h => h.2.1) (fun w h => tbc _ (uW0 w h)) rfl ob_1 rfl ?_
          exact a_iret dX4_count_83 ⟨_, rfl, h⟩
        · refine em_c h (fun c4 h => ?_) (fun c4 h => ?_)
          · refine a_tableIn (off := 83) (tgt := 84) dX4_count_1 (by rw [c4]; decide) (by rw [c4]; decide) (by rw [c4]; rfl) (by decide) ?_
            refine a_aload_n dX4_count_84 0 rfl ?_
            refine a_get2 dX4_count_85 0 (by decide) (tbc _ kF_RX4_10) (fun w h => tbc _ (uW2 w h)) rfl ob_0 rfl ?_
            refine a_getN0 dX4_count_88 5 (by decide) (fun _ h => h.2.2.2.2.1) (fun w h => tbc _ (uW0 w h)) rfl ob_1 rfl ?_
            exact a_iret dX4_count_91 ⟨_, rfl, h⟩
          · refine em_c h (fun c5 h => ?_) (fun c5 h => ?_)
            · refine a_tableIn (off := 91) (tgt := 92) dX4_count_1 (by rw [c5]; decide) (by rw [c5]; decide) (by rw [c5]; rfl) (by decide) ?_
              refine a_aload_n dX4_count_92 0 rfl ?_
              refine a_get2 dX4_count_93 0 (by decide) (tbc _ kF_RX4_10) (fun w h => tbc _ (uW2 w h)) rfl ob_0 rfl ?_
              refine a_callVi (n := 0) [] (C := RX0) (ci := 0) (qc := (RX0, TX0, 9)) (fsF := fl0 G _) ob_1.1 (fun _ => en0 ob_1.2) rfl rfl dX4_count_96 (s0_wetNow ob_1 h) (gV tbc kM_RX4_180_X0_wetNow kI_X0_wetNow kS_X0_wetNow kN_RX0 kC_X0_wetNow) rfl (by decide +kernel) ⟨Nat.le_of_ble_eq_true rfl, Nat.le_of_ble_eq_true rfl⟩ rfl rfl (Nat.le_of_ble_eq_true rfl) ⟨Nat.le_refl 0, Nat.le_refl 0⟩ (fun r M h => ?_)
              exact a_iret dX4_count_99 ⟨_, rfl, h⟩
            · refine em_c h (fun c6 h => ?_) (fun c6 h => ?_)
              · refine a_tableIn (off := 99) (tgt := 100) dX4_count_1 (by rw [c6]; decide) (by rw [c6]; decide) (by rw [c6]; rfl) (by decide) ?_
                refine a_aload_n dX4_count_100 0 rfl ?_
                refine a_get2 dX4_count_101 4 (by decide) (tbc _ kF_RX4_29) (fun w h => tbc _ (uW2 w h)) rfl ob_0 rfl ?_
                refine a_callVi (n := 0) [] (C := RX2) (ci := 1) (qc := (RX2, TX2, 2)) (fsF := fl1 G _) ob_57.1 (fun _ => en1 ob_57.2) rfl rfl dX4_count_104 (s2_size h) (gV tbc kM_RX4_55_X2_size kI_X2_size kS_X2_size kN_RX2 kC_X2_size) rfl (by decide +kernel) ⟨Nat.le_of_ble_eq_true rfl, Nat.le_of_ble_eq_true rfl⟩ rfl rfl (Nat.le_of_ble_eq_true rfl) ⟨Nat.le_refl 0, Nat.le_refl 0⟩ (fun r M h => ?_)
                exact a_iret dX4_count_107 ⟨_, rfl, h⟩
              · refine em_c h (fun c7 h => ?_) (fun c7 h => ?_)
                · refine a_tableIn (off := 107) (tgt := 108) dX4_count_1 (by rw [c7]; decide) (by rw [c7]; decide) (by rw [c7]; rfl) (by decide) ?_
                  refine a_aload_n dX4_count_108 0 rfl ?_
                  refine a_get2 dX4_count_109 8 (by decide) (tbc _ kF_RX4_290) (fun w h => tbc _ (uW2 w h)) rfl ob_0 rfl ?_
                  exact a_iret dX4_count_112 ⟨_, rfl, h⟩
                · refine em_c h (fun c8 h => ?_) (fun c8 h => ?_)
                  · refine a_tableIn (off := 112) (tgt := 113) dX4_count_1 (by rw [c8]; decide) (by rw [c8]; decide) (by rw [c8]; rfl) (by decide) ?_
                    refine a_aload_n dX4_count_113 0 rfl ?_
                    refine a_get2 dX4_count_114 9 (by decide) (tbc _ kF_RX4_76) (fun w h => tbc _ (uW2 w h)) rfl ob_0 rfl ?_
                    exact a_iret dX4_count_117 ⟨_, rfl, h⟩
                  · refine a_tableD (tgt := 118) dX4_count_1 (by decide) (fun k h1 h2 e => by have hk : k = 0 ∨ k = 1 ∨ k = 2 ∨ k = 3 ∨ k = 4 ∨ k = 5 ∨ k = 6 ∨ k = 7 ∨ k = 8 := (by omega); rcases hk with rfl | rfl | rfl | rfl | rfl | rfl | rfl | rfl | rfl <;> first | rfl | exact absurd e (ne_ti c0 (by decide)) | exact absurd e (ne_ti c1 (by decide)) | exact absurd e (ne_ti c2 (by decide)) | exact absurd e (ne_ti c3 (by decide)) | exact absurd e (ne_ti c4 (by decide)) | exact absurd e (ne_ti c5 (by decide)) | exact absurd e (ne_ti c6 (by decide)) | exact absurd e (ne_ti c7 (by decide)) | exact absurd e (ne_ti c8 (by decide))) ?_
                    refine a_iload_n dX4_count_118 1 rfl ?_
                    refine a_bipush (v := 11) dX4_count_119 (by decide) ?_
                    refine a_icmp_lt (tgt := 142) dX4_count_121 (by decide) (fun c => ?_) (fun c => ?_)
                    · have h := h.1 c
                      refine a_bipush (v := -9) dX4_count_142 (by decide) ?_
                      exact a_iret dX4_count_144 ⟨_, rfl, h⟩
                    · have h := h.2 c
                      refine a_iload_n dX4_count_124 1 rfl ?_
                      refine a_bipush (v := 16) dX4_count_125 (by decide) ?_
                      refine a_icmp_gt (tgt := 142) dX4_count_127 (by decide) (fun c => ?_) (fun c => ?_)
                      · have h := h.1 c
                        refine a_bipush (v := -9) dX4_count_142 (by decide) ?_
                        exact a_iret dX4_count_144 ⟨_, rfl, h⟩
                      · have h := h.2 c
                        refine a_aload_n dX4_count_130 0 rfl ?_
                        refine a_get2 dX4_count_131 6 (by decide) (tbc _ kF_RX4_37) (fun w h => tbc _ (uW2 w h)) rfl ob_0 rfl ?_
                        refine a_iload_n dX4_count_134 1 rfl ?_
                        refine a_bipush (v := 10) dX4_count_135 (by decide) ?_
                        refine a_isub dX4_count_137 ?_
                        refine a_iald dX4_count_138 h.1 ?_
                        have h := h.2
                        refine a_goto (tgt := 144) dX4_count_139 (by decide) ?_
                        exact a_iret dX4_count_144 ⟨_, rfl, h⟩

/-! X4_outside -/
theorem dX4_outside_0 : decode cX4_outside 0 = .ok (.iload_n 0, 1) := by decide +kernel
theorem dX4_outside_1 : decode cX4_outside 1 = .ok (.iload_n 1, 1) := by decide +kernel
theorem dX4_outside_2 : decode cX4_outside 2 = .ok (.if_icmp .ge 6, 3) := by decide +kernel
theorem dX4_outside_5 : decode cX4_outside 5 = .ok (.bipush (-4), 2) := by decide +kernel
theorem dX4_outside_7 : decode cX4_outside 7 = .ok (.ireturn, 1) := by decide +kernel
theorem dX4_outside_8 : decode cX4_outside 8 = .ok (.iload_n 0, 1) := by decide +kernel
theorem dX4_outside_9 : decode cX4_outside 9 = .ok (.iload_n 2, 1) := by decide +kernel
theorem dX4_outside_10 : decode cX4_outside 10 = .ok (.if_icmp .le 8, 3) := by decide +kernel
theorem dX4_outside_13 : decode cX4_outside 13 = .ok (.bipush (-6), 2) := by decide +kernel
theorem dX4_outside_15 : decode cX4_outside 15 = .ok (.goto 4, 3) := by decide +kernel
theorem dX4_outside_18 : decode cX4_outside 18 = .ok (.iconst 0, 1) := by decide +kernel
theorem dX4_outside_19 : decode cX4_outside 19 = .ok (.ireturn, 1) := by decide +kernel
abbrev A4_outside (G : GG) (Q : Int32 → MM → Prop) := AW G E0 (MZ G (qI Q)) (WY yX4_outside cX4_outside 3 (some .int)) RX4 cX4_outside 3 (some .int) ({ frames := 0, cells := 0, slots := 0, locals := 0 } : Room) 0 0
def D4_outside (x0 : Int32) (x1 : Int32) (x2 : Int32) (M : MM) (Q : Int32 → MM → Prop) : Prop := ((x1 ≤ x0 → ((x0 ≤ x2 → Q (0 : Int32) M) ∧ (¬ x0 ≤ x2 → Q (-6 : Int32) M))) ∧ (¬ x1 ≤ x0 → Q (-4 : Int32) M))
set_option maxHeartbeats 4000000 in
set_option maxRecDepth 100000 in
theorem s4_outside {G : GG} {x0 : Int32} {x1 : Int32} {x2 : Int32} {M : MM} {Q : Int32 → MM → Prop} (h : D4_outside x0 x1 x2 M Q) : CM G yX4_outside (WY yX4_outside cX4_outside 3 (some .int)) 0 0 [.int x0, .int x1, .int x2] M (qI Q) := by
  refine CM.of (cc := cX4_outside) (nL := 3) (ret := (some .int)) (own := RX4) (by decide +kernel) rfl rfl (Nat.le_of_ble_eq_true rfl) ?_
  show A4_outside G Q 0 [(0, .int x0), (1, .int x1), (2, .int x2)] [] M
  unfold D4_outside at h
  refine a_iload_n dX4_outside_0 0 rfl ?_
  refine a_iload_n dX4_outside_1 1 rfl ?_
  refine a_icmp_ge (tgt := 8) dX4_outside_2 (by decide) (fun c => ?_) (fun c => ?_)
  · have h := h.1 c
    refine a_iload_n dX4_outside_8 0 rfl ?_
    refine a_iload_n dX4_outside_9 2 rfl ?_
    refine a_icmp_le (tgt := 18) dX4_outside_10 (by decide) (fun c => ?_) (fun c => ?_)
    · have h := h.1 c
      refine a_iconst (v := 0) dX4_outside_18 (by decide) ?_
      exact a_iret dX4_outside_19 ⟨_, rfl, h⟩
    · have h := h.2 c
      refine a_bipush (v := -6) dX4_outside_13 (by decide) ?_
      refine a_goto (tgt := 19) dX4_outside_15 (by decide) ?_
      exact a_iret dX4_outside_19 ⟨_, rfl, h⟩
  · have h := h.2 c
    refine a_bipush (v := -4) dX4_outside_5 (by decide) ?_
    exact a_iret dX4_outside_7 ⟨_, rfl, h⟩

/-! X4_inMind -/
theorem dX4_inMind_0 : decode cX4_inMind 0 = .ok (.aload_n 0, 1) := by decide +kernel
theorem dX4_inMind_1 : decode cX4_inMind 1 = .ok (.getfield 16, 3) := by decide +kernel
theorem dX4_inMind_4 : decode cX4_inMind 4 = .ok (.aload_n 0, 1) := by decide +kernel
theorem dX4_inMind_5 : decode cX4_inMind 5 = .ok (.getfield 10, 3) := by decide +kernel
theorem dX4_inMind_8 : decode cX4_inMind 8 = .ok (.invokevirtual 65, 3) := by decide +kernel
theorem dX4_inMind_11 : decode cX4_inMind 11 = .ok (.aload_n 0, 1) := by decide +kernel
theorem dX4_inMind_12 : decode cX4_inMind 12 = .ok (.getfield 16, 3) := by decide +kernel
theorem dX4_inMind_15 : decode cX4_inMind 15 = .ok (.iload_n 1, 1) := by decide +kernel
theorem dX4_inMind_16 : decode cX4_inMind 16 = .ok (.invokevirtual 155, 3) := by decide +kernel
theorem dX4_inMind_19 : decode cX4_inMind 19 = .ok (.return_, 1) := by decide +kernel
abbrev A4_inMind (G : GG) (Q : MM → Prop) := AW G E0 (MZ G (qV Q)) (WY yX4_inMind cX4_inMind 2 none) RX4 cX4_inMind 2 none ({ frames := 4, cells := 0, slots := 0, locals := 94 } : Room) 0 0
def D4_inMind (x1 : Int32) (M : MM) (Q : MM → Prop) : Prop := D0_becomes 6 1 M (fun (M2 : MM) => D0_goesOn 6 x1 M2 (fun (M4 : MM) => Q M4))
set_option maxHeartbeats 4000000 in
set_option maxRecDepth 100000 in
theorem s4_inMind {G : GG} {x1 : Int32} {M : MM} {Q : MM → Prop} (h : D4_inMind x1 M Q) : CM G yX4_inMind (WY yX4_inMind cX4_inMind 2 none) 4 94 [.ref (gA G 0), .int x1] M (qV Q) := by
  refine CM.of (cc := cX4_inMind) (nL := 2) (ret := none) (own := RX4) (by decide +kernel) rfl rfl (Nat.le_of_ble_eq_true rfl) ?_
  show A4_inMind G Q 0 [(0, .ref (gA G 0)), (1, .int x1)] [] M
  unfold D4_inMind at h
  refine a_aload_n dX4_inMind_0 0 rfl ?_
  refine a_get2 dX4_inMind_1 1 (by decide) (tbc _ kF_RX4_16) (fun w h => tbc _ (uW2 w h)) rfl ob_0 rfl ?_
  refine a_aload_n dX4_inMind_4 0 rfl ?_
  refine a_get2 dX4_inMind_5 0 (by decide) (tbc _ kF_RX4_10) (fun w h => tbc _ (uW2 w h)) rfl ob_0 rfl ?_
  refine a_callVv (n := 1) [.ref _] (C := RX0) (ci := 0) (qc := (RX0, TX0, 9)) (fsF := fl0 G _) ob_6.1 (fun _ => en0 ob_6.2) rfl rfl dX4_inMind_8 (s0_becomes ob_6 ob_1 h) (gV tbc kM_RX4_65_X0_becomes kI_X0_becomes kS_X0_becomes kN_RX0 kC_X0_becomes) rfl (by decide +kernel) ⟨Nat.le_of_ble_eq_true rfl, Nat.le_of_ble_eq_true rfl⟩ rfl rfl (Nat.le_of_ble_eq_true rfl) ⟨Nat.le_refl 0, Nat.le_refl 0⟩ (fun M h => ?_)
  refine a_aload_n dX4_inMind_11 0 rfl ?_
  refine a_get2 dX4_inMind_12 1 (by decide) (tbc _ kF_RX4_16) (fun w h => tbc _ (uW2 w h)) rfl ob_0 rfl ?_
  refine a_iload_n dX4_inMind_15 1 rfl ?_
  refine a_callVv (n := 1) [.int _] (C := RX0) (ci := 0) (qc := (RX0, TX0, 9)) (fsF := fl0 G _) ob_6.1 (fun _ => en0 ob_6.2) rfl rfl dX4_inMind_16 (s0_goesOn ob_6 h) (gV tbc kM_RX4_155_X0_goesOn kI_X0_goesOn kS_X0_goesOn kN_RX0 kC_X0_goesOn) rfl (by decide +kernel) ⟨Nat.le_of_ble_eq_true rfl, Nat.le_of_ble_eq_true rfl⟩ rfl rfl (Nat.le_of_ble_eq_true rfl) ⟨Nat.le_refl 0, Nat.le_refl 0⟩ (fun M h => ?_)
  exact a_vret dX4_inMind_19 ⟨rfl, h⟩

/-! X4_dredge -/
theorem dX4_dredge_0 : decode cX4_dredge 0 = .ok (.iload_n 1, 1) := by decide +kernel
theorem dX4_dredge_1 : decode cX4_dredge 1 = .ok (.iconst 0, 1) := by decide +kernel
theorem dX4_dredge_2 : decode cX4_dredge 2 = .ok (.bipush 60, 2) := by decide +kernel
theorem dX4_dredge_4 : decode cX4_dredge 4 = .ok (.invokestatic 168, 3) := by decide +kernel
theorem dX4_dredge_7 : decode cX4_dredge 7 = .ok (.istore_n 2, 1) := by decide +kernel
theorem dX4_dredge_8 : decode cX4_dredge 8 = .ok (.iload_n 2, 1) := by decide +kernel
theorem dX4_dredge_9 : decode cX4_dredge 9 = .ok (.ifCond .eq 9, 3) := by decide +kernel
theorem dX4_dredge_12 : decode cX4_dredge 12 = .ok (.aload_n 0, 1) := by decide +kernel
theorem dX4_dredge_13 : decode cX4_dredge 13 = .ok (.iload_n 2, 1) := by decide +kernel
theorem dX4_dredge_14 : decode cX4_dredge 14 = .ok (.invokevirtual 43, 3) := by decide +kernel
theorem dX4_dredge_17 : decode cX4_dredge 17 = .ok (.ireturn, 1) := by decide +kernel
theorem dX4_dredge_18 : decode cX4_dredge 18 = .ok (.aload_n 0, 1) := by decide +kernel
theorem dX4_dredge_19 : decode cX4_dredge 19 = .ok (.iload_n 1, 1) := by decide +kernel
theorem dX4_dredge_20 : decode cX4_dredge 20 = .ok (.invokevirtual 177, 3) := by decide +kernel
theorem dX4_dredge_23 : decode cX4_dredge 23 = .ok (.aload_n 0, 1) := by decide +kernel
theorem dX4_dredge_24 : decode cX4_dredge 24 = .ok (.getfield 16, 3) := by decide +kernel
theorem dX4_dredge_27 : decode cX4_dredge 27 = .ok (.getfield 158, 3) := by decide +kernel
theorem dX4_dredge_30 : decode cX4_dredge 30 = .ok (.aload_n 0, 1) := by decide +kernel
theorem dX4_dredge_31 : decode cX4_dredge 31 = .ok (.getfield 16, 3) := by decide +kernel
theorem dX4_dredge_34 : decode cX4_dredge 34 = .ok (.getfield 146, 3) := by decide +kernel
theorem dX4_dredge_37 : decode cX4_dredge 37 = .ok (.isub, 1) := by decide +kernel
theorem dX4_dredge_38 : decode cX4_dredge 38 = .ok (.istore_n 3, 1) := by decide +kernel
theorem dX4_dredge_39 : decode cX4_dredge 39 = .ok (.bipush (-9), 2) := by decide +kernel
theorem dX4_dredge_41 : decode cX4_dredge 41 = .ok (.istore 4, 2) := by decide +kernel
theorem dX4_dredge_43 : decode cX4_dredge 43 = .ok (.iconst 0, 1) := by decide +kernel
theorem dX4_dredge_44 : decode cX4_dredge 44 = .ok (.istore 5, 2) := by decide +kernel
theorem dX4_dredge_46 : decode cX4_dredge 46 = .ok (.iload 5, 2) := by decide +kernel
theorem dX4_dredge_48 : decode cX4_dredge 48 = .ok (.bipush 8, 2) := by decide +kernel
theorem dX4_dredge_50 : decode cX4_dredge 50 = .ok (.if_icmp .ge 88, 3) := by decide +kernel
theorem dX4_dredge_53 : decode cX4_dredge 53 = .ok (.aload_n 0, 1) := by decide +kernel
theorem dX4_dredge_54 : decode cX4_dredge 54 = .ok (.getfield 10, 3) := by decide +kernel
theorem dX4_dredge_57 : decode cX4_dredge 57 = .ok (.iload 5, 2) := by decide +kernel
theorem dX4_dredge_59 : decode cX4_dredge 59 = .ok (.invokevirtual 96, 3) := by decide +kernel
theorem dX4_dredge_62 : decode cX4_dredge 62 = .ok (.ifCond .eq 70, 3) := by decide +kernel
theorem dX4_dredge_65 : decode cX4_dredge 65 = .ok (.aload_n 0, 1) := by decide +kernel
theorem dX4_dredge_66 : decode cX4_dredge 66 = .ok (.getfield 16, 3) := by decide +kernel
theorem dX4_dredge_69 : decode cX4_dredge 69 = .ok (.aload_n 0, 1) := by decide +kernel
theorem dX4_dredge_70 : decode cX4_dredge 70 = .ok (.getfield 10, 3) := by decide +kernel
theorem dX4_dredge_73 : decode cX4_dredge 73 = .ok (.invokevirtual 65, 3) := by decide +kernel
theorem dX4_dredge_76 : decode cX4_dredge 76 = .ok (.aload_n 0, 1) := by decide +kernel
theorem dX4_dredge_77 : decode cX4_dredge 77 = .ok (.getfield 16, 3) := by decide +kernel
theorem dX4_dredge_80 : decode cX4_dredge 80 = .ok (.iload 5, 2) := by decide +kernel
theorem dX4_dredge_82 : decode cX4_dredge 82 = .ok (.invokevirtual 136, 3) := by decide +kernel
theorem dX4_dredge_85 : decode cX4_dredge 85 = .ok (.aload_n 0, 1) := by decide +kernel
theorem dX4_dredge_86 : decode cX4_dredge 86 = .ok (.getfield 16, 3) := by decide +kernel
theorem dX4_dredge_89 : decode cX4_dredge 89 = .ok (.iload_n 1, 1) := by decide +kernel
theorem dX4_dredge_90 : decode cX4_dredge 90 = .ok (.invokevirtual 155, 3) := by decide +kernel
theorem dX4_dredge_93 : decode cX4_dredge 93 = .ok (.aload_n 0, 1) := by decide +kernel
theorem dX4_dredge_94 : decode cX4_dredge 94 = .ok (.getfield 16, 3) := by decide +kernel
theorem dX4_dredge_97 : decode cX4_dredge 97 = .ok (.getfield 158, 3) := by decide +kernel
theorem dX4_dredge_100 : decode cX4_dredge 100 = .ok (.aload_n 0, 1) := by decide +kernel
theorem dX4_dredge_101 : decode cX4_dredge 101 = .ok (.getfield 16, 3) := by decide +kernel
theorem dX4_dredge_104 : decode cX4_dredge 104 = .ok (.getfield 146, 3) := by decide +kernel
theorem dX4_dredge_107 : decode cX4_dredge 107 = .ok (.isub, 1) := by decide +kernel
theorem dX4_dredge_108 : decode cX4_dredge 108 = .ok (.iload_n 3, 1) := by decide +kernel
theorem dX4_dredge_109 : decode cX4_dredge 109 = .ok (.if_icmp .le 23, 3) := by decide +kernel
theorem dX4_dredge_112 : decode cX4_dredge 112 = .ok (.iload 5, 2) := by decide +kernel
theorem dX4_dredge_114 : decode cX4_dredge 114 = .ok (.istore 4, 2) := by decide +kernel
theorem dX4_dredge_116 : decode cX4_dredge 116 = .ok (.aload_n 0, 1) := by decide +kernel
theorem dX4_dredge_117 : decode cX4_dredge 117 = .ok (.getfield 16, 3) := by decide +kernel
theorem dX4_dredge_120 : decode cX4_dredge 120 = .ok (.getfield 158, 3) := by decide +kernel
theorem dX4_dredge_123 : decode cX4_dredge 123 = .ok (.aload_n 0, 1) := by decide +kernel
theorem dX4_dredge_124 : decode cX4_dredge 124 = .ok (.getfield 16, 3) := by decide +kernel
theorem dX4_dredge_127 : decode cX4_dredge 127 = .ok (.getfield 146, 3) := by decide +kernel
theorem dX4_dredge_130 : decode cX4_dredge 130 = .ok (.isub, 1) := by decide +kernel
theorem dX4_dredge_131 : decode cX4_dredge 131 = .ok (.istore_n 3, 1) := by decide +kernel
theorem dX4_dredge_132 : decode cX4_dredge 132 = .ok (.iinc 5 1, 3) := by decide +kernel
theorem dX4_dredge_135 : decode cX4_dredge 135 = .ok (.goto (-89), 3) := by decide +kernel
theorem dX4_dredge_138 : decode cX4_dredge 138 = .ok (.iload 4, 2) := by decide +kernel
theorem dX4_dredge_140 : decode cX4_dredge 140 = .ok (.ireturn, 1) := by decide +kernel
abbrev A4_dredge (G : GG) (Q : Int32 → MM → Prop) := AW G E0 (MZ G (qI Q)) (WY yX4_dredge cX4_dredge 6 (some .int)) RX4 cX4_dredge 6 (some .int) ({ frames := 5, cells := 0, slots := 0, locals := 115 } : Room) 0 0
def D4_dredge_c132 (K46 : Int32 → Int32 → Int32 → Int32 → MM → Prop) (Q : Int32 → MM → Prop) (x1 : Int32) (x3 : Int32) (x4 : Int32) (x5 : Int32) (M : MM) : Prop := (fun v17 : Int32 => K46 x1 x3 x4 v17 M) (x5 + (1 : Int32))
def D4_dredge_c46 (Q : Int32 → MM → Prop) : Nat → Int32 → Int32 → Int32 → Int32 → MM → Prop
  | 0, _, _, _, _, _ => False
  | n + 1, x1, x3, x4, x5, M => (((8 : Int32) ≤ x5 → Q x4 M) ∧ (¬ (8 : Int32) ≤ x5 → D0_stands 1 x5 M (fun (r8 : Int32) (M9 : MM) => ((r8 = 0 → D4_dredge_c132 (D4_dredge_c46 Q n) Q x1 x3 x4 x5 M9) ∧ (¬ r8 = 0 → D0_becomes 6 1 M9 (fun (M11 : MM) => D0_loses 6 x5 M11 (fun (M13 : MM) => D0_goesOn 6 x1 M13 (fun (M15 : MM) => ((((M15 6 7) - (M15 6 8)) ≤ x3 → D4_dredge_c132 (D4_dredge_c46 Q n) Q x1 x3 x4 x5 M15) ∧ (¬ ((M15 6 7) - (M15 6 8)) ≤ x3 → (fun v16 : Int32 => D4_dredge_c132 (D4_dredge_c46 Q n) Q x1 v16 x5 x5 M15) ((M15 6 7) - (M15 6 8))))))))))))
def D4_dredge (x1 : Int32) (M : MM) (Q : Int32 → MM → Prop) : Prop := D4_outside x1 (0 : Int32) (60 : Int32) M (fun (r1 : Int32) (M2 : MM) => ((r1 = 0 → D4_inMind x1 M2 (fun (M4 : MM) => (fun v5 : Int32 => D4_dredge_c46 Q FU x1 v5 (-9 : Int32) (0 : Int32) M4) ((M4 6 7) - (M4 6 8)))) ∧ (¬ r1 = 0 → D4_refused r1 M2 (fun (r6 : Int32) (M7 : MM) => Q r6 M7))))
set_option maxHeartbeats 4000000 in
set_option maxRecDepth 100000 in
theorem s4_dredge_c132 {G : GG} {K46 : Int32 → Int32 → Int32 → Int32 → MM → Prop} {Q : Int32 → MM → Prop} (hK46 : ∀ (x1 : Int32) (x3 : Int32) (x4 : Int32) (x5 : Int32) (M : MM), K46 x1 x3 x4 x5 M → A4_dredge G Q 46 [(0, .ref (gA G 0)), (1, .int x1), (3, .int x3), (4, .int x4), (5, .int x5)] [] M) : ∀ (x1 : Int32) (x3 : Int32) (x4 : Int32) (x5 : Int32) (M : MM), D4_dredge_c132 K46 Q x1 x3 x4 x5 M → A4_dredge G Q 132 [(0, .ref (gA G 0)), (1, .int x1), (3, .int x3), (4, .int x4), (5, .int x5)] [] M := by
  intro x1 x3 x4 x5 M h
  unfold D4_dredge_c132 at h
  refine a_iinc (L' := [(5, .int _), (0, .ref _), (1, .int _), (3, .int _), (4, .int _)]) dX4_dredge_132 4 rfl (show _ + Int32.ofInt (1 : Int) = _ + (1 : Int32) from rfl) (by decide) rfl ?_
  refine a_goto (tgt := 46) dX4_dredge_135 (by decide) ?_
  refine a_sub [1, 2, 3, 4, 0] rfl ?_
  exact hK46 _ _ _ _ _ h
set_option maxHeartbeats 4000000 in
set_option maxRecDepth 100000 in
theorem s4_dredge_c46 {G : GG} {Q : Int32 → MM → Prop} : ∀ (n : Nat) (x1 : Int32) (x3 : Int32) (x4 : Int32) (x5 : Int32) (M : MM), D4_dredge_c46 Q n x1 x3 x4 x5 M → A4_dredge G Q 46 [(0, .ref (gA G 0)), (1, .int x1), (3, .int x3), (4, .int x4), (5, .int x5)] [] M := by
  intro n
  induction n with
  | zero => intro x1 x3 x4 x5 M h; exact h.elim
  | succ n ih =>
    intro x1 x3 x4 x5 M h
    unfold D4_dredge_c46 at h
    refine a_iload dX4_dredge_46 4 rfl ?_
    refine a_bipush (v := 8) dX4_dredge_48 (by decide) ?_
    refine a_icmp_ge (tgt := 138) dX4_dredge_50 (by decide) (fun c => ?_) (fun c => ?_)
    · have h := h.1 c
      refine a_iload dX4_dredge_138 3 rfl ?_
      exact a_iret dX4_dredge_140 ⟨_, rfl, h⟩
    · have h := h.2 c
      refine a_aload_n dX4_dredge_53 0 rfl ?_
      refine a_get2 dX4_dredge_54 0 (by decide) (tbc _ kF_RX4_10) (fun w h => tbc _ (uW2 w h)) rfl ob_0 rfl ?_
      refine a_iload dX4_dredge_57 4 rfl ?_
      refine a_callVi (n := 1) [.int _] (C := RX0) (ci := 0) (qc := (RX0, TX0, 9)) (fsF := fl0 G _) ob_1.1 (fun _ => en0 ob_1.2) rfl rfl dX4_dredge_59 (s0_stands ob_1 h) (gV tbc kM_RX4_96_X0_stands kI_X0_stands kS_X0_stands kN_RX0 kC_X0_stands) rfl (by decide +kernel) ⟨Nat.le_of_ble_eq_true rfl, Nat.le_of_ble_eq_true rfl⟩ rfl rfl (Nat.le_of_ble_eq_true rfl) ⟨Nat.le_refl 0, Nat.le_refl 0⟩ (fun r M h => ?_)
      refine a_if_eq (tgt := 132) dX4_dredge_62 (by decide) (fun c => ?_) (fun c => ?_)
      · have h := h.1 c
        refine a_sub [0, 1, 2, 3, 4] rfl ?_
        exact s4_dredge_c132 ih _ _ _ _ _ h
      · have h := h.2 c
        refine a_aload_n dX4_dredge_65 0 rfl ?_
        refine a_get2 dX4_dredge_66 1 (by decide) (tbc _ kF_RX4_16) (fun w h => tbc _ (uW2 w h)) rfl ob_0 rfl ?_
        refine a_aload_n dX4_dredge_69 0 rfl ?_
        refine a_get2 dX4_dredge_70 0 (by decide) (tbc _ kF_RX4_10) (fun w h => tbc _ (uW2 w h)) rfl ob_0 rfl ?_
        refine a_callVv (n := 1) [.ref _] (C := RX0) (ci := 0) (qc := (RX0, TX0, 9)) (fsF := fl0 G _) ob_6.1 (fun _ => en0 ob_6.2) rfl rfl dX4_dredge_73 (s0_becomes ob_6 ob_1 h) (gV tbc kM_RX4_65_X0_becomes kI_X0_becomes kS_X0_becomes kN_RX0 kC_X0_becomes) rfl (by decide +kernel) ⟨Nat.le_of_ble_eq_true rfl, Nat.le_of_ble_eq_true rfl⟩ rfl rfl (Nat.le_of_ble_eq_true rfl) ⟨Nat.le_refl 0, Nat.le_refl 0⟩ (fun M h => ?_)
        refine a_aload_n dX4_dredge_76 0 rfl ?_
        refine a_get2 dX4_dredge_77 1 (by decide) (tbc _ kF_RX4_16) (fun w h => tbc _ (uW2 w h)) rfl ob_0 rfl ?_
        refine a_iload dX4_dredge_80 4 rfl ?_
        refine a_callVv (n := 1) [.int _] (C := RX0) (ci := 0) (qc := (RX0, TX0, 9)) (fsF := fl0 G _) ob_6.1 (fun _ => en0 ob_6.2) rfl rfl dX4_dredge_82 (s0_loses ob_6 h) (gV tbc kM_RX4_136_X0_loses kI_X0_loses kS_X0_loses kN_RX0 kC_X0_loses) rfl (by decide +kernel) ⟨Nat.le_of_ble_eq_true rfl, Nat.le_of_ble_eq_true rfl⟩ rfl rfl (Nat.le_of_ble_eq_true rfl) ⟨Nat.le_refl 0, Nat.le_refl 0⟩ (fun M h => ?_)
        refine a_aload_n dX4_dredge_85 0 rfl ?_
        refine a_get2 dX4_dredge_86 1 (by decide) (tbc _ kF_RX4_16) (fun w h => tbc _ (uW2 w h)) rfl ob_0 rfl ?_
        refine a_iload_n dX4_dredge_89 1 rfl ?_
        refine a_callVv (n := 1) [.int _] (C := RX0) (ci := 0) (qc := (RX0, TX0, 9)) (fsF := fl0 G _) ob_6.1 (fun _ => en0 ob_6.2) rfl rfl dX4_dredge_90 (s0_goesOn ob_6 h) (gV tbc kM_RX4_155_X0_goesOn kI_X0_goesOn kS_X0_goesOn kN_RX0 kC_X0_goesOn) rfl (by decide +kernel) ⟨Nat.le_of_ble_eq_true rfl, Nat.le_of_ble_eq_true rfl⟩ rfl rfl (Nat.le_of_ble_eq_true rfl) ⟨Nat.le_refl 0, Nat.le_refl 0⟩ (fun M h => ?_)
        refine a_aload_n dX4_dredge_93 0 rfl ?_
        refine a_get2 dX4_dredge_94 1 (by decide) (tbc _ kF_RX4_16) (fun w h => tbc _ (uW2 w h)) rfl ob_0 rfl ?_
        refine a_getN0 dX4_dredge_97 7 (by decide) (fun _ h => h.2.2.2.1) (fun w h => tbc _ (uW0 w h)) rfl ob_6 rfl ?_
        refine a_aload_n dX4_dredge_100 0 rfl ?_
        refine a_get2 dX4_dredge_101 1 (by decide) (tbc _ kF_RX4_16) (fun w h => tbc _ (uW2 w h)) rfl ob_0 rfl ?_
        refine a_getN0 dX4_dredge_104 8 (by decide) (fun _ h => h.2.1) (fun w h => tbc _ (uW0 w h)) rfl ob_6 rfl ?_
        refine a_isub dX4_dredge_107 ?_
        refine a_iload_n dX4_dredge_108 2 rfl ?_
        refine a_icmp_le (tgt := 132) dX4_dredge_109 (by decide) (fun c => ?_) (fun c => ?_)
        · have h := h.1 c
          refine a_sub [0, 1, 2, 3, 4] rfl ?_
          exact s4_dredge_c132 ih _ _ _ _ _ h
        · have h := h.2 c
          refine a_iload dX4_dredge_112 4 rfl ?_
          refine a_istore (i := 4) (L' := [(4, .int _), (0, .ref _), (1, .int _), (3, .int _), (5, .int _)]) dX4_dredge_114 (by decide) rfl ?_
          refine a_aload_n dX4_dredge_116 1 rfl ?_
          refine a_get2 dX4_dredge_117 1 (by decide) (tbc _ kF_RX4_16) (fun w h => tbc _ (uW2 w h)) rfl ob_0 rfl ?_
          refine a_getN0 dX4_dredge_120 7 (by decide) (fun _ h => h.2.2.2.1) (fun w h => tbc _ (uW0 w h)) rfl ob_6 rfl ?_
          refine a_aload_n dX4_dredge_123 1 rfl ?_
          refine a_get2 dX4_dredge_124 1 (by decide) (tbc _ kF_RX4_16) (fun w h => tbc _ (uW2 w h)) rfl ob_0 rfl ?_
          refine a_getN0 dX4_dredge_127 8 (by decide) (fun _ h => h.2.1) (fun w h => tbc _ (uW0 w h)) rfl ob_6 rfl ?_
          refine a_isub dX4_dredge_130 ?_
          refine a_istore_n (i := 3) (L' := [(3, .int _), (4, .int _), (0, .ref _), (1, .int _), (5, .int _)]) dX4_dredge_131 rfl (by decide) rfl ?_
          refine a_sub [2, 3, 0, 1, 4] rfl ?_
          exact s4_dredge_c132 ih _ _ _ _ _ h
set_option maxHeartbeats 4000000 in
set_option maxRecDepth 100000 in
theorem s4_dredge {G : GG} {x1 : Int32} {M : MM} {Q : Int32 → MM → Prop} (h : D4_dredge x1 M Q) : CM G yX4_dredge (WY yX4_dredge cX4_dredge 6 (some .int)) 5 115 [.ref (gA G 0), .int x1] M (qI Q) := by
  refine CM.of (cc := cX4_dredge) (nL := 6) (ret := (some .int)) (own := RX4) (by decide +kernel) rfl rfl (Nat.le_of_ble_eq_true rfl) ?_
  show A4_dredge G Q 0 [(0, .ref (gA G 0)), (1, .int x1)] [] M
  unfold D4_dredge at h
  refine a_iload_n dX4_dredge_0 1 rfl ?_
  refine a_iconst (v := 0) dX4_dredge_1 (by decide) ?_
  refine a_bipush (v := 60) dX4_dredge_2 (by decide) ?_
  refine a_callSi (n := 3) [.int _, .int _, .int _] dX4_dredge_4 (s4_outside h) (gS tbc kM_RX4_168_X4_outside kT_X4_outside kN_RX4 kC_X4_outside) rfl (by decide +kernel) ⟨Nat.le_of_ble_eq_true rfl, Nat.le_of_ble_eq_true rfl⟩ rfl rfl (Nat.le_of_ble_eq_true rfl) ⟨Nat.le_refl 0, Nat.le_refl 0⟩ (fun r M h => ?_)
  refine a_istore_n (i := 2) (L' := [(2, .int _), (0, .ref _), (1, .int _)]) dX4_dredge_7 rfl (by decide) rfl ?_
  refine a_iload_n dX4_dredge_8 0 rfl ?_
  refine a_if_eq (tgt := 18) dX4_dredge_9 (by decide) (fun c => ?_) (fun c => ?_)
  · have h := h.1 c
    refine a_aload_n dX4_dredge_18 1 rfl ?_
    refine a_iload_n dX4_dredge_19 2 rfl ?_
    refine a_callVv (n := 1) [.int _] (C := RX4) (ci := 2) (qc := (RX4, TX4, 12)) (fsF := fl2 G _) ob_0.1 (fun _ => en2 ob_0.2) rfl rfl dX4_dredge_20 (s4_inMind h) (gV tbc kM_RX4_177_X4_inMind kI_X4_inMind kS_X4_inMind kN_RX4 kC_X4_inMind) rfl (by decide +kernel) ⟨Nat.le_of_ble_eq_true rfl, Nat.le_of_ble_eq_true rfl⟩ rfl rfl (Nat.le_of_ble_eq_true rfl) ⟨Nat.le_refl 0, Nat.le_refl 0⟩ (fun M h => ?_)
    refine a_aload_n dX4_dredge_23 1 rfl ?_
    refine a_get2 dX4_dredge_24 1 (by decide) (tbc _ kF_RX4_16) (fun w h => tbc _ (uW2 w h)) rfl ob_0 rfl ?_
    refine a_getN0 dX4_dredge_27 7 (by decide) (fun _ h => h.2.2.2.1) (fun w h => tbc _ (uW0 w h)) rfl ob_6 rfl ?_
    refine a_aload_n dX4_dredge_30 1 rfl ?_
    refine a_get2 dX4_dredge_31 1 (by decide) (tbc _ kF_RX4_16) (fun w h => tbc _ (uW2 w h)) rfl ob_0 rfl ?_
    refine a_getN0 dX4_dredge_34 8 (by decide) (fun _ h => h.2.1) (fun w h => tbc _ (uW0 w h)) rfl ob_6 rfl ?_
    refine a_isub dX4_dredge_37 ?_
    refine a_istore_n (i := 3) (L' := [(3, .int _), (2, .int _), (0, .ref _), (1, .int _)]) dX4_dredge_38 rfl (by decide) rfl ?_
    refine a_bipush (v := -9) dX4_dredge_39 (by decide) ?_
    refine a_istore (i := 4) (L' := [(4, .int _), (3, .int _), (2, .int _), (0, .ref _), (1, .int _)]) dX4_dredge_41 (by decide) rfl ?_
    refine a_iconst (v := 0) dX4_dredge_43 (by decide) ?_
    refine a_istore (i := 5) (L' := [(5, .int _), (4, .int _), (3, .int _), (2, .int _), (0, .ref _), (1, .int _)]) dX4_dredge_44 (by decide) rfl ?_
    refine a_sub [4, 5, 2, 1, 0] rfl ?_
    exact s4_dredge_c46 _ _ _ _ _ _ h
  · have h := h.2 c
    refine a_aload_n dX4_dredge_12 1 rfl ?_
    refine a_iload_n dX4_dredge_13 0 rfl ?_
    refine a_callVi (n := 1) [.int _] (C := RX4) (ci := 2) (qc := (RX4, TX4, 12)) (fsF := fl2 G _) ob_0.1 (fun _ => en2 ob_0.2) rfl rfl dX4_dredge_14 (s4_refused h) (gV tbc kM_RX4_43_X4_refused kI_X4_refused kS_X4_refused kN_RX4 kC_X4_refused) rfl (by decide +kernel) ⟨Nat.le_of_ble_eq_true rfl, Nat.le_of_ble_eq_true rfl⟩ rfl rfl (Nat.le_of_ble_eq_true rfl) ⟨Nat.le_refl 0, Nat.le_refl 0⟩ (fun r M h => ?_)
    exact a_iret dX4_dredge_17 ⟨_, rfl, h⟩

/-! X4_dryHours -/
theorem dX4_dryHours_0 : decode cX4_dryHours 0 = .ok (.aload_n 0, 1) := by decide +kernel
theorem dX4_dryHours_1 : decode cX4_dryHours 1 = .ok (.getfield 16, 3) := by decide +kernel
theorem dX4_dryHours_4 : decode cX4_dryHours 4 = .ok (.aload_n 0, 1) := by decide +kernel
theorem dX4_dryHours_5 : decode cX4_dryHours 5 = .ok (.getfield 10, 3) := by decide +kernel
theorem dX4_dryHours_8 : decode cX4_dryHours 8 = .ok (.invokevirtual 65, 3) := by decide +kernel
theorem dX4_dryHours_11 : decode cX4_dryHours 11 = .ok (.iconst 0, 1) := by decide +kernel
theorem dX4_dryHours_12 : decode cX4_dryHours 12 = .ok (.istore_n 2, 1) := by decide +kernel
theorem dX4_dryHours_13 : decode cX4_dryHours 13 = .ok (.iconst 1, 1) := by decide +kernel
theorem dX4_dryHours_14 : decode cX4_dryHours 14 = .ok (.istore_n 3, 1) := by decide +kernel
theorem dX4_dryHours_15 : decode cX4_dryHours 15 = .ok (.iload_n 3, 1) := by decide +kernel
theorem dX4_dryHours_16 : decode cX4_dryHours 16 = .ok (.bipush 60, 2) := by decide +kernel
theorem dX4_dryHours_18 : decode cX4_dryHours 18 = .ok (.if_icmp .gt 39, 3) := by decide +kernel
theorem dX4_dryHours_21 : decode cX4_dryHours 21 = .ok (.aload_n 0, 1) := by decide +kernel
theorem dX4_dryHours_22 : decode cX4_dryHours 22 = .ok (.getfield 16, 3) := by decide +kernel
theorem dX4_dryHours_25 : decode cX4_dryHours 25 = .ok (.iconst 1, 1) := by decide +kernel
theorem dX4_dryHours_26 : decode cX4_dryHours 26 = .ok (.invokevirtual 155, 3) := by decide +kernel
theorem dX4_dryHours_29 : decode cX4_dryHours 29 = .ok (.iload_n 2, 1) := by decide +kernel
theorem dX4_dryHours_30 : decode cX4_dryHours 30 = .ok (.aload_n 0, 1) := by decide +kernel
theorem dX4_dryHours_31 : decode cX4_dryHours 31 = .ok (.getfield 16, 3) := by decide +kernel
theorem dX4_dryHours_34 : decode cX4_dryHours 34 = .ok (.invokevirtual 180, 3) := by decide +kernel
theorem dX4_dryHours_37 : decode cX4_dryHours 37 = .ok (.iload_n 1, 1) := by decide +kernel
theorem dX4_dryHours_38 : decode cX4_dryHours 38 = .ok (.invokestatic 186, 3) := by decide +kernel
theorem dX4_dryHours_41 : decode cX4_dryHours 41 = .ok (.ifCond .eq 7, 3) := by decide +kernel
theorem dX4_dryHours_44 : decode cX4_dryHours 44 = .ok (.iconst 0, 1) := by decide +kernel
theorem dX4_dryHours_45 : decode cX4_dryHours 45 = .ok (.goto 4, 3) := by decide +kernel
theorem dX4_dryHours_48 : decode cX4_dryHours 48 = .ok (.iconst 1, 1) := by decide +kernel
theorem dX4_dryHours_49 : decode cX4_dryHours 49 = .ok (.iadd, 1) := by decide +kernel
theorem dX4_dryHours_50 : decode cX4_dryHours 50 = .ok (.istore_n 2, 1) := by decide +kernel
theorem dX4_dryHours_51 : decode cX4_dryHours 51 = .ok (.iinc 3 1, 3) := by decide +kernel
theorem dX4_dryHours_54 : decode cX4_dryHours 54 = .ok (.goto (-39), 3) := by decide +kernel
theorem dX4_dryHours_57 : decode cX4_dryHours 57 = .ok (.iload_n 2, 1) := by decide +kernel
theorem dX4_dryHours_58 : decode cX4_dryHours 58 = .ok (.ireturn, 1) := by decide +kernel
abbrev A4_dryHours (G : GG) (Q : Int32 → MM → Prop) := AW G E0 (MZ G (qI Q)) (WY yX4_dryHours cX4_dryHours 4 (some .int)) RX4 cX4_dryHours 4 (some .int) ({ frames := 4, cells := 0, slots := 0, locals := 94 } : Room) 0 0
def D4_dryHours_c49 (K15 : Int32 → Int32 → Int32 → MM → Prop) (Q : Int32 → MM → Prop) (x1 : Int32) (x3 : Int32) (s0 : Int32) (s1 : Int32) (M : MM) : Prop := (fun v9 : Int32 => (fun v10 : Int32 => K15 x1 v9 v10 M) (x3 + (1 : Int32))) (s1 + s0)
def D4_dryHours_c15 (Q : Int32 → MM → Prop) : Nat → Int32 → Int32 → Int32 → MM → Prop
  | 0, _, _, _, _ => False
  | n + 1, x1, x2, x3, M => (((60 : Int32) < x3 → Q x2 M) ∧ (¬ (60 : Int32) < x3 → D0_goesOn 6 (1 : Int32) M (fun (M4 : MM) => D0_wetNow 6 M4 (fun (r5 : Int32) (M6 : MM) => D3_has r5 x1 M6 (fun (r7 : Int32) (M8 : MM) => ((r7 = 0 → D4_dryHours_c49 (D4_dryHours_c15 Q n) Q x1 x3 (1 : Int32) x2 M8) ∧ (¬ r7 = 0 → D4_dryHours_c49 (D4_dryHours_c15 Q n) Q x1 x3 (0 : Int32) x2 M8)))))))
def D4_dryHours (x1 : Int32) (M : MM) (Q : Int32 → MM → Prop) : Prop := D0_becomes 6 1 M (fun (M2 : MM) => D4_dryHours_c15 Q FU x1 (0 : Int32) (1 : Int32) M2)
set_option maxHeartbeats 4000000 in
set_option maxRecDepth 100000 in
theorem s4_dryHours_c49 {G : GG} {K15 : Int32 → Int32 → Int32 → MM → Prop} {Q : Int32 → MM → Prop} (hK15 : ∀ (x1 : Int32) (x2 : Int32) (x3 : Int32) (M : MM), K15 x1 x2 x3 M → A4_dryHours G Q 15 [(0, .ref (gA G 0)), (1, .int x1), (2, .int x2), (3, .int x3)] [] M) : ∀ (x1 : Int32) (x3 : Int32) (s0 : Int32) (s1 : Int32) (M : MM), D4_dryHours_c49 K15 Q x1 x3 s0 s1 M → A4_dryHours G Q 49 [(0, .ref (gA G 0)), (1, .int x1), (3, .int x3)] [.int s0, .int s1] M := by
  intro x1 x3 s0 s1 M h
  unfold D4_dryHours_c49 at h
  refine a_iadd dX4_dryHours_49 ?_
  refine a_istore_n (i := 2) (L' := [(2, .int _), (0, .ref _), (1, .int _), (3, .int _)]) dX4_dryHours_50 rfl (by decide) rfl ?_
  refine a_iinc (L' := [(3, .int _), (2, .int _), (0, .ref _), (1, .int _)]) dX4_dryHours_51 3 rfl (show _ + Int32.ofInt (1 : Int) = _ + (1 : Int32) from rfl) (by decide) rfl ?_
  refine a_goto (tgt := 15) dX4_dryHours_54 (by decide) ?_
  refine a_sub [2, 3, 1, 0] rfl ?_
  exact hK15 _ _ _ _ h
set_option maxHeartbeats 4000000 in
set_option maxRecDepth 100000 in
theorem s4_dryHours_c15 {G : GG} {Q : Int32 → MM → Prop} : ∀ (n : Nat) (x1 : Int32) (x2 : Int32) (x3 : Int32) (M : MM), D4_dryHours_c15 Q n x1 x2 x3 M → A4_dryHours G Q 15 [(0, .ref (gA G 0)), (1, .int x1), (2, .int x2), (3, .int x3)] [] M := by
  intro n
  induction n with
  | zero => intro x1 x2 x3 M h; exact h.elim
  | succ n ih =>
    intro x1 x2 x3 M h
    unfold D4_dryHours_c15 at h
    refine a_iload_n dX4_dryHours_15 3 rfl ?_
    refine a_bipush (v := 60) dX4_dryHours_16 (by decide) ?_
    refine a_icmp_gt (tgt := 57) dX4_dryHours_18 (by decide) (fun c => ?_) (fun c => ?_)
    · have h := h.1 c
      refine a_iload_n dX4_dryHours_57 2 rfl ?_
      exact a_iret dX4_dryHours_58 ⟨_, rfl, h⟩
    · have h := h.2 c
      refine a_aload_n dX4_dryHours_21 0 rfl ?_
      refine a_get2 dX4_dryHours_22 1 (by decide) (tbc _ kF_RX4_16) (fun w h => tbc _ (uW2 w h)) rfl ob_0 rfl ?_
      refine a_iconst (v := 1) dX4_dryHours_25 (by decide) ?_
      refine a_callVv (n := 1) [.int _] (C := RX0) (ci := 0) (qc := (RX0, TX0, 9)) (fsF := fl0 G _) ob_6.1 (fun _ => en0 ob_6.2) rfl rfl dX4_dryHours_26 (s0_goesOn ob_6 h) (gV tbc kM_RX4_155_X0_goesOn kI_X0_goesOn kS_X0_goesOn kN_RX0 kC_X0_goesOn) rfl (by decide +kernel) ⟨Nat.le_of_ble_eq_true rfl, Nat.le_of_ble_eq_true rfl⟩ rfl rfl (Nat.le_of_ble_eq_true rfl) ⟨Nat.le_refl 0, Nat.le_refl 0⟩ (fun M h => ?_)
      refine a_iload_n dX4_dryHours_29 2 rfl ?_
      refine a_aload_n dX4_dryHours_30 0 rfl ?_
      refine a_get2 dX4_dryHours_31 1 (by decide) (tbc _ kF_RX4_16) (fun w h => tbc _ (uW2 w h)) rfl ob_0 rfl ?_
      refine a_callVi (n := 0) [] (C := RX0) (ci := 0) (qc := (RX0, TX0, 9)) (fsF := fl0 G _) ob_6.1 (fun _ => en0 ob_6.2) rfl rfl dX4_dryHours_34 (s0_wetNow ob_6 h) (gV tbc kM_RX4_180_X0_wetNow kI_X0_wetNow kS_X0_wetNow kN_RX0 kC_X0_wetNow) rfl (by decide +kernel) ⟨Nat.le_of_ble_eq_true rfl, Nat.le_of_ble_eq_true rfl⟩ rfl rfl (Nat.le_of_ble_eq_true rfl) ⟨Nat.le_refl 0, Nat.le_refl 0⟩ (fun r M h => ?_)
      refine a_iload_n dX4_dryHours_37 1 rfl ?_
      refine a_callSi (n := 2) [.int _, .int _] dX4_dryHours_38 (s3_has h) (gS tbc kM_RX4_186_X3_has kT_X3_has kN_RX3 kC_X3_has) rfl (by decide +kernel) ⟨Nat.le_of_ble_eq_true rfl, Nat.le_of_ble_eq_true rfl⟩ rfl rfl (Nat.le_of_ble_eq_true rfl) ⟨Nat.le_refl 0, Nat.le_refl 0⟩ (fun r M h => ?_)
      refine a_if_eq (tgt := 48) dX4_dryHours_41 (by decide) (fun c => ?_) (fun c => ?_)
      · have h := h.1 c
        refine a_iconst (v := 1) dX4_dryHours_48 (by decide) ?_
        refine a_sub [0, 1, 3] rfl ?_
        exact s4_dryHours_c49 ih _ _ _ _ _ h
      · have h := h.2 c
        refine a_iconst (v := 0) dX4_dryHours_44 (by decide) ?_
        refine a_goto (tgt := 49) dX4_dryHours_45 (by decide) ?_
        refine a_sub [0, 1, 3] rfl ?_
        exact s4_dryHours_c49 ih _ _ _ _ _ h
set_option maxHeartbeats 4000000 in
set_option maxRecDepth 100000 in
theorem s4_dryHours {G : GG} {x1 : Int32} {M : MM} {Q : Int32 → MM → Prop} (h : D4_dryHours x1 M Q) : CM G yX4_dryHours (WY yX4_dryHours cX4_dryHours 4 (some .int)) 4 94 [.ref (gA G 0), .int x1] M (qI Q) := by
  refine CM.of (cc := cX4_dryHours) (nL := 4) (ret := (some .int)) (own := RX4) (by decide +kernel) rfl rfl (Nat.le_of_ble_eq_true rfl) ?_
  show A4_dryHours G Q 0 [(0, .ref (gA G 0)), (1, .int x1)] [] M
  unfold D4_dryHours at h
  refine a_aload_n dX4_dryHours_0 0 rfl ?_
  refine a_get2 dX4_dryHours_1 1 (by decide) (tbc _ kF_RX4_16) (fun w h => tbc _ (uW2 w h)) rfl ob_0 rfl ?_
  refine a_aload_n dX4_dryHours_4 0 rfl ?_
  refine a_get2 dX4_dryHours_5 0 (by decide) (tbc _ kF_RX4_10) (fun w h => tbc _ (uW2 w h)) rfl ob_0 rfl ?_
  refine a_callVv (n := 1) [.ref _] (C := RX0) (ci := 0) (qc := (RX0, TX0, 9)) (fsF := fl0 G _) ob_6.1 (fun _ => en0 ob_6.2) rfl rfl dX4_dryHours_8 (s0_becomes ob_6 ob_1 h) (gV tbc kM_RX4_65_X0_becomes kI_X0_becomes kS_X0_becomes kN_RX0 kC_X0_becomes) rfl (by decide +kernel) ⟨Nat.le_of_ble_eq_true rfl, Nat.le_of_ble_eq_true rfl⟩ rfl rfl (Nat.le_of_ble_eq_true rfl) ⟨Nat.le_refl 0, Nat.le_refl 0⟩ (fun M h => ?_)
  refine a_iconst (v := 0) dX4_dryHours_11 (by decide) ?_
  refine a_istore_n (i := 2) (L' := [(2, .int _), (0, .ref _), (1, .int _)]) dX4_dryHours_12 rfl (by decide) rfl ?_
  refine a_iconst (v := 1) dX4_dryHours_13 (by decide) ?_
  refine a_istore_n (i := 3) (L' := [(3, .int _), (2, .int _), (0, .ref _), (1, .int _)]) dX4_dryHours_14 rfl (by decide) rfl ?_
  refine a_sub [2, 3, 1, 0] rfl ?_
  exact s4_dryHours_c15 _ _ _ _ _ h

/-! X4_driest -/
theorem dX4_driest_0 : decode cX4_driest 0 = .ok (.iload_n 1, 1) := by decide +kernel
theorem dX4_driest_1 : decode cX4_driest 1 = .ok (.ifCond .lt 8, 3) := by decide +kernel
theorem dX4_driest_4 : decode cX4_driest 4 = .ok (.iload_n 1, 1) := by decide +kernel
theorem dX4_driest_5 : decode cX4_driest 5 = .ok (.iconst 1, 1) := by decide +kernel
theorem dX4_driest_6 : decode cX4_driest 6 = .ok (.if_icmp .le 10, 3) := by decide +kernel
theorem dX4_driest_9 : decode cX4_driest 9 = .ok (.aload_n 0, 1) := by decide +kernel
theorem dX4_driest_10 : decode cX4_driest 10 = .ok (.bipush (-2), 2) := by decide +kernel
theorem dX4_driest_12 : decode cX4_driest 12 = .ok (.invokevirtual 43, 3) := by decide +kernel
theorem dX4_driest_15 : decode cX4_driest 15 = .ok (.ireturn, 1) := by decide +kernel
theorem dX4_driest_16 : decode cX4_driest 16 = .ok (.iconst 0, 1) := by decide +kernel
theorem dX4_driest_17 : decode cX4_driest 17 = .ok (.istore_n 2, 1) := by decide +kernel
theorem dX4_driest_18 : decode cX4_driest 18 = .ok (.bipush (-9), 2) := by decide +kernel
theorem dX4_driest_20 : decode cX4_driest 20 = .ok (.istore_n 3, 1) := by decide +kernel
theorem dX4_driest_21 : decode cX4_driest 21 = .ok (.iconst 0, 1) := by decide +kernel
theorem dX4_driest_22 : decode cX4_driest 22 = .ok (.istore 4, 2) := by decide +kernel
theorem dX4_driest_24 : decode cX4_driest 24 = .ok (.iload 4, 2) := by decide +kernel
theorem dX4_driest_26 : decode cX4_driest 26 = .ok (.bipush 25, 2) := by decide +kernel
theorem dX4_driest_28 : decode cX4_driest 28 = .ok (.if_icmp .ge 29, 3) := by decide +kernel
theorem dX4_driest_31 : decode cX4_driest 31 = .ok (.aload_n 0, 1) := by decide +kernel
theorem dX4_driest_32 : decode cX4_driest 32 = .ok (.iload 4, 2) := by decide +kernel
theorem dX4_driest_34 : decode cX4_driest 34 = .ok (.invokevirtual 190, 3) := by decide +kernel
theorem dX4_driest_37 : decode cX4_driest 37 = .ok (.istore 5, 2) := by decide +kernel
theorem dX4_driest_39 : decode cX4_driest 39 = .ok (.iload 5, 2) := by decide +kernel
theorem dX4_driest_41 : decode cX4_driest 41 = .ok (.iload_n 3, 1) := by decide +kernel
theorem dX4_driest_42 : decode cX4_driest 42 = .ok (.if_icmp .le 9, 3) := by decide +kernel
theorem dX4_driest_45 : decode cX4_driest 45 = .ok (.iload 4, 2) := by decide +kernel
theorem dX4_driest_47 : decode cX4_driest 47 = .ok (.istore_n 2, 1) := by decide +kernel
theorem dX4_driest_48 : decode cX4_driest 48 = .ok (.iload 5, 2) := by decide +kernel
theorem dX4_driest_50 : decode cX4_driest 50 = .ok (.istore_n 3, 1) := by decide +kernel
theorem dX4_driest_51 : decode cX4_driest 51 = .ok (.iinc 4 1, 3) := by decide +kernel
theorem dX4_driest_54 : decode cX4_driest 54 = .ok (.goto (-30), 3) := by decide +kernel
theorem dX4_driest_57 : decode cX4_driest 57 = .ok (.iload_n 1, 1) := by decide +kernel
theorem dX4_driest_58 : decode cX4_driest 58 = .ok (.ifCond .ne 7, 3) := by decide +kernel
theorem dX4_driest_61 : decode cX4_driest 61 = .ok (.iload_n 2, 1) := by decide +kernel
theorem dX4_driest_62 : decode cX4_driest 62 = .ok (.goto 4, 3) := by decide +kernel
theorem dX4_driest_65 : decode cX4_driest 65 = .ok (.iload_n 3, 1) := by decide +kernel
theorem dX4_driest_66 : decode cX4_driest 66 = .ok (.ireturn, 1) := by decide +kernel
abbrev A4_driest (G : GG) (Q : Int32 → MM → Prop) := AW G E0 (MZ G (qI Q)) (WY yX4_driest cX4_driest 6 (some .int)) RX4 cX4_driest 6 (some .int) ({ frames := 5, cells := 0, slots := 0, locals := 117 } : Room) 0 0
def D4_driest_c9 (Q : Int32 → MM → Prop) (M : MM) : Prop := D4_refused (-2 : Int32) M (fun (r1 : Int32) (M2 : MM) => Q r1 M2)
def D4_driest_c51 (K24 : Int32 → Int32 → Int32 → Int32 → MM → Prop) (Q : Int32 → MM → Prop) (x1 : Int32) (x2 : Int32) (x3 : Int32) (x4 : Int32) (M : MM) : Prop := (fun v5 : Int32 => K24 x1 x2 x3 v5 M) (x4 + (1 : Int32))
def D4_driest_c57 (Q : Int32 → MM → Prop) (x1 : Int32) (x2 : Int32) (x3 : Int32) (M : MM) : Prop := ((x1 ≠ 0 → Q x3 M) ∧ (x1 = 0 → Q x2 M))
def D4_driest_c24 (Q : Int32 → MM → Prop) : Nat → Int32 → Int32 → Int32 → Int32 → MM → Prop
  | 0, _, _, _, _, _ => False
  | n + 1, x1, x2, x3, x4, M => (((25 : Int32) ≤ x4 → D4_driest_c57 Q x1 x2 x3 M) ∧ (¬ (25 : Int32) ≤ x4 → D4_dryHours x4 M (fun (r3 : Int32) (M4 : MM) => ((r3 ≤ x3 → D4_driest_c51 (D4_driest_c24 Q n) Q x1 x2 x3 x4 M4) ∧ (¬ r3 ≤ x3 → D4_driest_c51 (D4_driest_c24 Q n) Q x1 x4 r3 x4 M4)))))
def D4_driest (x1 : Int32) (M : MM) (Q : Int32 → MM → Prop) : Prop := ((x1 < 0 → D4_driest_c9 Q M) ∧ (¬ x1 < 0 → ((x1 ≤ (1 : Int32) → D4_driest_c24 Q FU x1 (0 : Int32) (-9 : Int32) (0 : Int32) M) ∧ (¬ x1 ≤ (1 : Int32) → D4_driest_c9 Q M))))
set_option maxHeartbeats 4000000 in
set_option maxRecDepth 100000 in
theorem s4_driest_c9 {G : GG} {Q : Int32 → MM → Prop} : ∀  (M : MM), D4_driest_c9 Q M → A4_driest G Q 9 [(0, .ref (gA G 0))] [] M := by
  intro  M h
  unfold D4_driest_c9 at h
  refine a_aload_n dX4_driest_9 0 rfl ?_
  refine a_bipush (v := -2) dX4_driest_10 (by decide) ?_
  refine a_callVi (n := 1) [.int _] (C := RX4) (ci := 2) (qc := (RX4, TX4, 12)) (fsF := fl2 G _) ob_0.1 (fun _ => en2 ob_0.2) rfl rfl dX4_driest_12 (s4_refused h) (gV tbc kM_RX4_43_X4_refused kI_X4_refused kS_X4_refused kN_RX4 kC_X4_refused) rfl (by decide +kernel) ⟨Nat.le_of_ble_eq_true rfl, Nat.le_of_ble_eq_true rfl⟩ rfl rfl (Nat.le_of_ble_eq_true rfl) ⟨Nat.le_refl 0, Nat.le_refl 0⟩ (fun r M h => ?_)
  exact a_iret dX4_driest_15 ⟨_, rfl, h⟩
set_option maxHeartbeats 4000000 in
set_option maxRecDepth 100000 in
theorem s4_driest_c51 {G : GG} {K24 : Int32 → Int32 → Int32 → Int32 → MM → Prop} {Q : Int32 → MM → Prop} (hK24 : ∀ (x1 : Int32) (x2 : Int32) (x3 : Int32) (x4 : Int32) (M : MM), K24 x1 x2 x3 x4 M → A4_driest G Q 24 [(0, .ref (gA G 0)), (1, .int x1), (2, .int x2), (3, .int x3), (4, .int x4)] [] M) : ∀ (x1 : Int32) (x2 : Int32) (x3 : Int32) (x4 : Int32) (M : MM), D4_driest_c51 K24 Q x1 x2 x3 x4 M → A4_driest G Q 51 [(0, .ref (gA G 0)), (1, .int x1), (2, .int x2), (3, .int x3), (4, .int x4)] [] M := by
  intro x1 x2 x3 x4 M h
  unfold D4_driest_c51 at h
  refine a_iinc (L' := [(4, .int _), (0, .ref _), (1, .int _), (2, .int _), (3, .int _)]) dX4_driest_51 4 rfl (show _ + Int32.ofInt (1 : Int) = _ + (1 : Int32) from rfl) (by decide) rfl ?_
  refine a_goto (tgt := 24) dX4_driest_54 (by decide) ?_
  refine a_sub [1, 2, 3, 4, 0] rfl ?_
  exact hK24 _ _ _ _ _ h
set_option maxHeartbeats 4000000 in
set_option maxRecDepth 100000 in
theorem s4_driest_c57 {G : GG} {Q : Int32 → MM → Prop} : ∀ (x1 : Int32) (x2 : Int32) (x3 : Int32) (M : MM), D4_driest_c57 Q x1 x2 x3 M → A4_driest G Q 57 [(1, .int x1), (2, .int x2), (3, .int x3)] [] M := by
  intro x1 x2 x3 M h
  unfold D4_driest_c57 at h
  refine a_iload_n dX4_driest_57 0 rfl ?_
  refine a_if_ne (tgt := 65) dX4_driest_58 (by decide) (fun c => ?_) (fun c => ?_)
  · have h := h.1 c
    refine a_iload_n dX4_driest_65 2 rfl ?_
    exact a_iret dX4_driest_66 ⟨_, rfl, h⟩
  · have h := h.2 c
    refine a_iload_n dX4_driest_61 1 rfl ?_
    refine a_goto (tgt := 66) dX4_driest_62 (by decide) ?_
    exact a_iret dX4_driest_66 ⟨_, rfl, h⟩
set_option maxHeartbeats 4000000 in
set_option maxRecDepth 100000 in
theorem s4_driest_c24 {G : GG} {Q : Int32 → MM → Prop} : ∀ (n : Nat) (x1 : Int32) (x2 : Int32) (x3 : Int32) (x4 : Int32) (M : MM), D4_driest_c24 Q n x1 x2 x3 x4 M → A4_driest G Q 24 [(0, .ref (gA G 0)), (1, .int x1), (2, .int x2), (3, .int x3), (4, .int x4)] [] M := by
  intro n
  induction n with
  | zero => intro x1 x2 x3 x4 M h; exact h.elim
  | succ n ih =>
    intro x1 x2 x3 x4 M h
    unfold D4_driest_c24 at h
    refine a_iload dX4_driest_24 4 rfl ?_
    refine a_bipush (v := 25) dX4_driest_26 (by decide) ?_
    refine a_icmp_ge (tgt := 57) dX4_driest_28 (by decide) (fun c => ?_) (fun c => ?_)
    · have h := h.1 c
      refine a_sub [1, 2, 3] rfl ?_
      exact s4_driest_c57 _ _ _ _ h
    · have h := h.2 c
      refine a_aload_n dX4_driest_31 0 rfl ?_
      refine a_iload dX4_driest_32 4 rfl ?_
      refine a_callVi (n := 1) [.int _] (C := RX4) (ci := 2) (qc := (RX4, TX4, 12)) (fsF := fl2 G _) ob_0.1 (fun _ => en2 ob_0.2) rfl rfl dX4_driest_34 (s4_dryHours h) (gV tbc kM_RX4_190_X4_dryHours kI_X4_dryHours kS_X4_dryHours kN_RX4 kC_X4_dryHours) rfl (by decide +kernel) ⟨Nat.le_of_ble_eq_true rfl, Nat.le_of_ble_eq_true rfl⟩ rfl rfl (Nat.le_of_ble_eq_true rfl) ⟨Nat.le_refl 0, Nat.le_refl 0⟩ (fun r M h => ?_)
      refine a_istore (i := 5) (L' := [(5, .int _), (0, .ref _), (1, .int _), (2, .int _), (3, .int _), (4, .int _)]) dX4_driest_37 (by decide) rfl ?_
      refine a_iload dX4_driest_39 0 rfl ?_
      refine a_iload_n dX4_driest_41 4 rfl ?_
      refine a_icmp_le (tgt := 51) dX4_driest_42 (by decide) (fun c => ?_) (fun c => ?_)
      · have h := h.1 c
        refine a_sub [1, 2, 3, 4, 5] rfl ?_
        exact s4_driest_c51 ih _ _ _ _ _ h
      · have h := h.2 c
        refine a_iload dX4_driest_45 5 rfl ?_
        refine a_istore_n (i := 2) (L' := [(2, .int _), (5, .int _), (0, .ref _), (1, .int _), (3, .int _), (4, .int _)]) dX4_driest_47 rfl (by decide) rfl ?_
        refine a_iload dX4_driest_48 1 rfl ?_
        refine a_istore_n (i := 3) (L' := [(3, .int _), (2, .int _), (5, .int _), (0, .ref _), (1, .int _), (4, .int _)]) dX4_driest_50 rfl (by decide) rfl ?_
        refine a_sub [3, 4, 1, 0, 5] rfl ?_
        exact s4_driest_c51 ih _ _ _ _ _ h
set_option maxHeartbeats 4000000 in
set_option maxRecDepth 100000 in
theorem s4_driest {G : GG} {x1 : Int32} {M : MM} {Q : Int32 → MM → Prop} (h : D4_driest x1 M Q) : CM G yX4_driest (WY yX4_driest cX4_driest 6 (some .int)) 5 117 [.ref (gA G 0), .int x1] M (qI Q) := by
  refine CM.of (cc := cX4_driest) (nL := 6) (ret := (some .int)) (own := RX4) (by decide +kernel) rfl rfl (Nat.le_of_ble_eq_true rfl) ?_
  show A4_driest G Q 0 [(0, .ref (gA G 0)), (1, .int x1)] [] M
  unfold D4_driest at h
  refine a_iload_n dX4_driest_0 1 rfl ?_
  refine a_if_lt (tgt := 9) dX4_driest_1 (by decide) (fun c => ?_) (fun c => ?_)
  · have h := h.1 c
    refine a_sub [0] rfl ?_
    exact s4_driest_c9 _ h
  · have h := h.2 c
    refine a_iload_n dX4_driest_4 1 rfl ?_
    refine a_iconst (v := 1) dX4_driest_5 (by decide) ?_
    refine a_icmp_le (tgt := 16) dX4_driest_6 (by decide) (fun c => ?_) (fun c => ?_)
    · have h := h.1 c
      refine a_iconst (v := 0) dX4_driest_16 (by decide) ?_
      refine a_istore_n (i := 2) (L' := [(2, .int _), (0, .ref _), (1, .int _)]) dX4_driest_17 rfl (by decide) rfl ?_
      refine a_bipush (v := -9) dX4_driest_18 (by decide) ?_
      refine a_istore_n (i := 3) (L' := [(3, .int _), (2, .int _), (0, .ref _), (1, .int _)]) dX4_driest_20 rfl (by decide) rfl ?_
      refine a_iconst (v := 0) dX4_driest_21 (by decide) ?_
      refine a_istore (i := 4) (L' := [(4, .int _), (3, .int _), (2, .int _), (0, .ref _), (1, .int _)]) dX4_driest_22 (by decide) rfl ?_
      refine a_sub [3, 4, 2, 1, 0] rfl ?_
      exact s4_driest_c24 _ _ _ _ _ _ h
    · have h := h.2 c
      refine a_sub [0] rfl ?_
      exact s4_driest_c9 _ h

/-! X4_dry -/
theorem dX4_dry_0 : decode cX4_dry 0 = .ok (.iload_n 1, 1) := by decide +kernel
theorem dX4_dry_1 : decode cX4_dry 1 = .ok (.invokestatic 114, 3) := by decide +kernel
theorem dX4_dry_4 : decode cX4_dry 4 = .ok (.ifCond .ne 9, 3) := by decide +kernel
theorem dX4_dry_7 : decode cX4_dry 7 = .ok (.aload_n 0, 1) := by decide +kernel
theorem dX4_dry_8 : decode cX4_dry 8 = .ok (.iconst (-1), 1) := by decide +kernel
theorem dX4_dry_9 : decode cX4_dry 9 = .ok (.invokevirtual 43, 3) := by decide +kernel
theorem dX4_dry_12 : decode cX4_dry 12 = .ok (.ireturn, 1) := by decide +kernel
theorem dX4_dry_13 : decode cX4_dry 13 = .ok (.aload_n 0, 1) := by decide +kernel
theorem dX4_dry_14 : decode cX4_dry 14 = .ok (.iload_n 1, 1) := by decide +kernel
theorem dX4_dry_15 : decode cX4_dry 15 = .ok (.invokevirtual 190, 3) := by decide +kernel
theorem dX4_dry_18 : decode cX4_dry 18 = .ok (.ireturn, 1) := by decide +kernel
abbrev A4_dry (G : GG) (Q : Int32 → MM → Prop) := AW G E0 (MZ G (qI Q)) (WY yX4_dry cX4_dry 2 (some .int)) RX4 cX4_dry 2 (some .int) ({ frames := 5, cells := 0, slots := 0, locals := 117 } : Room) 0 0
def D4_dry (x1 : Int32) (M : MM) (Q : Int32 → MM → Prop) : Prop := D4_isCell x1 M (fun (r1 : Int32) (M2 : MM) => ((r1 ≠ 0 → D4_dryHours x1 M2 (fun (r3 : Int32) (M4 : MM) => Q r3 M4)) ∧ (r1 = 0 → D4_refused (-1 : Int32) M2 (fun (r5 : Int32) (M6 : MM) => Q r5 M6))))
set_option maxHeartbeats 4000000 in
set_option maxRecDepth 100000 in
theorem s4_dry {G : GG} {x1 : Int32} {M : MM} {Q : Int32 → MM → Prop} (h : D4_dry x1 M Q) : CM G yX4_dry (WY yX4_dry cX4_dry 2 (some .int)) 5 117 [.ref (gA G 0), .int x1] M (qI Q) := by
  refine CM.of (cc := cX4_dry) (nL := 2) (ret := (some .int)) (own := RX4) (by decide +kernel) rfl rfl (Nat.le_of_ble_eq_true rfl) ?_
  show A4_dry G Q 0 [(0, .ref (gA G 0)), (1, .int x1)] [] M
  unfold D4_dry at h
  refine a_iload_n dX4_dry_0 1 rfl ?_
  refine a_callSi (n := 1) [.int _] dX4_dry_1 (s4_isCell h) (gS tbc kM_RX4_114_X4_isCell kT_X4_isCell kN_RX4 kC_X4_isCell) rfl (by decide +kernel) ⟨Nat.le_of_ble_eq_true rfl, Nat.le_of_ble_eq_true rfl⟩ rfl rfl (Nat.le_of_ble_eq_true rfl) ⟨Nat.le_refl 0, Nat.le_refl 0⟩ (fun r M h => ?_)
  refine a_if_ne (tgt := 13) dX4_dry_4 (by decide) (fun c => ?_) (fun c => ?_)
  · have h := h.1 c
    refine a_aload_n dX4_dry_13 0 rfl ?_
    refine a_iload_n dX4_dry_14 1 rfl ?_
    refine a_callVi (n := 1) [.int _] (C := RX4) (ci := 2) (qc := (RX4, TX4, 12)) (fsF := fl2 G _) ob_0.1 (fun _ => en2 ob_0.2) rfl rfl dX4_dry_15 (s4_dryHours h) (gV tbc kM_RX4_190_X4_dryHours kI_X4_dryHours kS_X4_dryHours kN_RX4 kC_X4_dryHours) rfl (by decide +kernel) ⟨Nat.le_of_ble_eq_true rfl, Nat.le_of_ble_eq_true rfl⟩ rfl rfl (Nat.le_of_ble_eq_true rfl) ⟨Nat.le_refl 0, Nat.le_refl 0⟩ (fun r M h => ?_)
    exact a_iret dX4_dry_18 ⟨_, rfl, h⟩
  · have h := h.2 c
    refine a_aload_n dX4_dry_7 0 rfl ?_
    refine a_iconst (v := -1) dX4_dry_8 (by decide) ?_
    refine a_callVi (n := 1) [.int _] (C := RX4) (ci := 2) (qc := (RX4, TX4, 12)) (fsF := fl2 G _) ob_0.1 (fun _ => en2 ob_0.2) rfl rfl dX4_dry_9 (s4_refused h) (gV tbc kM_RX4_43_X4_refused kI_X4_refused kS_X4_refused kN_RX4 kC_X4_refused) rfl (by decide +kernel) ⟨Nat.le_of_ble_eq_true rfl, Nat.le_of_ble_eq_true rfl⟩ rfl rfl (Nat.le_of_ble_eq_true rfl) ⟨Nat.le_refl 0, Nat.le_refl 0⟩ (fun r M h => ?_)
    exact a_iret dX4_dry_12 ⟨_, rfl, h⟩

/-! X4_lowestBit -/
theorem dX4_lowestBit_0 : decode cX4_lowestBit 0 = .ok (.iload_n 0, 1) := by decide +kernel
theorem dX4_lowestBit_1 : decode cX4_lowestBit 1 = .ok (.iload_n 0, 1) := by decide +kernel
theorem dX4_lowestBit_2 : decode cX4_lowestBit 2 = .ok (.ineg, 1) := by decide +kernel
theorem dX4_lowestBit_3 : decode cX4_lowestBit 3 = .ok (.iand, 1) := by decide +kernel
theorem dX4_lowestBit_4 : decode cX4_lowestBit 4 = .ok (.iconst 1, 1) := by decide +kernel
theorem dX4_lowestBit_5 : decode cX4_lowestBit 5 = .ok (.isub, 1) := by decide +kernel
theorem dX4_lowestBit_6 : decode cX4_lowestBit 6 = .ok (.invokestatic 254, 3) := by decide +kernel
theorem dX4_lowestBit_9 : decode cX4_lowestBit 9 = .ok (.ireturn, 1) := by decide +kernel
abbrev A4_lowestBit (G : GG) (Q : Int32 → MM → Prop) := AW G E0 (MZ G (qI Q)) (WY yX4_lowestBit cX4_lowestBit 1 (some .int)) RX4 cX4_lowestBit 1 (some .int) ({ frames := 1, cells := 0, slots := 0, locals := 20 } : Room) 0 0
def D4_lowestBit (x0 : Int32) (M : MM) (Q : Int32 → MM → Prop) : Prop := DJ6_bitCount ((x0 &&& (-x0)) - (1 : Int32)) M (fun (r1 : Int32) (M2 : MM) => Q r1 M2)
set_option maxHeartbeats 4000000 in
set_option maxRecDepth 100000 in
theorem s4_lowestBit {G : GG} {x0 : Int32} {M : MM} {Q : Int32 → MM → Prop} (h : D4_lowestBit x0 M Q) : CM G yX4_lowestBit (WY yX4_lowestBit cX4_lowestBit 1 (some .int)) 1 20 [.int x0] M (qI Q) := by
  refine CM.of (cc := cX4_lowestBit) (nL := 1) (ret := (some .int)) (own := RX4) (by decide +kernel) rfl rfl (Nat.le_of_ble_eq_true rfl) ?_
  show A4_lowestBit G Q 0 [(0, .int x0)] [] M
  unfold D4_lowestBit at h
  refine a_iload_n dX4_lowestBit_0 0 rfl ?_
  refine a_iload_n dX4_lowestBit_1 0 rfl ?_
  refine a_ineg dX4_lowestBit_2 ?_
  refine a_iand dX4_lowestBit_3 ?_
  refine a_iconst (v := 1) dX4_lowestBit_4 (by decide) ?_
  refine a_isub dX4_lowestBit_5 ?_
  refine a_callSi (n := 1) [.int _] dX4_lowestBit_6 (sJ6_bitCount h) (gS tbc kM_RX4_254_J6_bitCount_0f7a4 kT_J6_bitCount_0f7a4 kN_RJ6 kC_J6_bitCount_0f7a4) rfl (by decide +kernel) ⟨Nat.le_of_ble_eq_true rfl, Nat.le_of_ble_eq_true rfl⟩ rfl rfl (Nat.le_of_ble_eq_true rfl) ⟨Nat.le_refl 0, Nat.le_refl 0⟩ (fun r M h => ?_)
  exact a_iret dX4_lowestBit_9 ⟨_, rfl, h⟩

/-! X4_falls -/
theorem dX4_falls_0 : decode cX4_falls 0 = .ok (.iload_n 1, 1) := by decide +kernel
theorem dX4_falls_1 : decode cX4_falls 1 = .ok (.iconst (-1), 1) := by decide +kernel
theorem dX4_falls_2 : decode cX4_falls 2 = .ok (.if_icmp .eq 20, 3) := by decide +kernel
theorem dX4_falls_5 : decode cX4_falls 5 = .ok (.aload_n 0, 1) := by decide +kernel
theorem dX4_falls_6 : decode cX4_falls 6 = .ok (.getfield 10, 3) := by decide +kernel
theorem dX4_falls_9 : decode cX4_falls 9 = .ok (.iload_n 1, 1) := by decide +kernel
theorem dX4_falls_10 : decode cX4_falls 10 = .ok (.invokevirtual 80, 3) := by decide +kernel
theorem dX4_falls_13 : decode cX4_falls 13 = .ok (.ifCond .ne 9, 3) := by decide +kernel
theorem dX4_falls_16 : decode cX4_falls 16 = .ok (.aload_n 0, 1) := by decide +kernel
theorem dX4_falls_17 : decode cX4_falls 17 = .ok (.iconst (-1), 1) := by decide +kernel
theorem dX4_falls_18 : decode cX4_falls 18 = .ok (.invokevirtual 43, 3) := by decide +kernel
theorem dX4_falls_21 : decode cX4_falls 21 = .ok (.ireturn, 1) := by decide +kernel
theorem dX4_falls_22 : decode cX4_falls 22 = .ok (.aload_n 0, 1) := by decide +kernel
theorem dX4_falls_23 : decode cX4_falls 23 = .ok (.getfield 16, 3) := by decide +kernel
theorem dX4_falls_26 : decode cX4_falls 26 = .ok (.aload_n 0, 1) := by decide +kernel
theorem dX4_falls_27 : decode cX4_falls 27 = .ok (.getfield 10, 3) := by decide +kernel
theorem dX4_falls_30 : decode cX4_falls 30 = .ok (.invokevirtual 65, 3) := by decide +kernel
theorem dX4_falls_33 : decode cX4_falls 33 = .ok (.iconst 0, 1) := by decide +kernel
theorem dX4_falls_34 : decode cX4_falls 34 = .ok (.istore_n 2, 1) := by decide +kernel
theorem dX4_falls_35 : decode cX4_falls 35 = .ok (.iload_n 2, 1) := by decide +kernel
theorem dX4_falls_36 : decode cX4_falls 36 = .ok (.bipush 60, 2) := by decide +kernel
theorem dX4_falls_38 : decode cX4_falls 38 = .ok (.if_icmp .gt 67, 3) := by decide +kernel
theorem dX4_falls_41 : decode cX4_falls 41 = .ok (.aload_n 0, 1) := by decide +kernel
theorem dX4_falls_42 : decode cX4_falls 42 = .ok (.getfield 10, 3) := by decide +kernel
theorem dX4_falls_45 : decode cX4_falls 45 = .ok (.getfield 183, 3) := by decide +kernel
theorem dX4_falls_48 : decode cX4_falls 48 = .ok (.aload_n 0, 1) := by decide +kernel
theorem dX4_falls_49 : decode cX4_falls 49 = .ok (.getfield 16, 3) := by decide +kernel
theorem dX4_falls_52 : decode cX4_falls 52 = .ok (.getfield 183, 3) := by decide +kernel
theorem dX4_falls_55 : decode cX4_falls 55 = .ok (.iconst (-1), 1) := by decide +kernel
theorem dX4_falls_56 : decode cX4_falls 56 = .ok (.ixor, 1) := by decide +kernel
theorem dX4_falls_57 : decode cX4_falls 57 = .ok (.iand, 1) := by decide +kernel
theorem dX4_falls_58 : decode cX4_falls 58 = .ok (.istore_n 3, 1) := by decide +kernel
theorem dX4_falls_59 : decode cX4_falls 59 = .ok (.iload_n 1, 1) := by decide +kernel
theorem dX4_falls_60 : decode cX4_falls 60 = .ok (.iconst (-1), 1) := by decide +kernel
theorem dX4_falls_61 : decode cX4_falls 61 = .ok (.if_icmp .ne 12, 3) := by decide +kernel
theorem dX4_falls_64 : decode cX4_falls 64 = .ok (.iload_n 3, 1) := by decide +kernel
theorem dX4_falls_65 : decode cX4_falls 65 = .ok (.ifCond .eq 8, 3) := by decide +kernel
theorem dX4_falls_68 : decode cX4_falls 68 = .ok (.iload_n 3, 1) := by decide +kernel
theorem dX4_falls_69 : decode cX4_falls 69 = .ok (.invokestatic 193, 3) := by decide +kernel
theorem dX4_falls_72 : decode cX4_falls 72 = .ok (.ireturn, 1) := by decide +kernel
theorem dX4_falls_73 : decode cX4_falls 73 = .ok (.iload_n 1, 1) := by decide +kernel
theorem dX4_falls_74 : decode cX4_falls 74 = .ok (.iconst (-1), 1) := by decide +kernel
theorem dX4_falls_75 : decode cX4_falls 75 = .ok (.if_icmp .eq 16, 3) := by decide +kernel
theorem dX4_falls_78 : decode cX4_falls 78 = .ok (.aload_n 0, 1) := by decide +kernel
theorem dX4_falls_79 : decode cX4_falls 79 = .ok (.getfield 16, 3) := by decide +kernel
theorem dX4_falls_82 : decode cX4_falls 82 = .ok (.iload_n 1, 1) := by decide +kernel
theorem dX4_falls_83 : decode cX4_falls 83 = .ok (.invokevirtual 96, 3) := by decide +kernel
theorem dX4_falls_86 : decode cX4_falls 86 = .ok (.ifCond .ne 5, 3) := by decide +kernel
theorem dX4_falls_89 : decode cX4_falls 89 = .ok (.iload_n 2, 1) := by decide +kernel
theorem dX4_falls_90 : decode cX4_falls 90 = .ok (.ireturn, 1) := by decide +kernel
theorem dX4_falls_91 : decode cX4_falls 91 = .ok (.aload_n 0, 1) := by decide +kernel
theorem dX4_falls_92 : decode cX4_falls 92 = .ok (.getfield 16, 3) := by decide +kernel
theorem dX4_falls_95 : decode cX4_falls 95 = .ok (.iconst 1, 1) := by decide +kernel
theorem dX4_falls_96 : decode cX4_falls 96 = .ok (.invokevirtual 155, 3) := by decide +kernel
theorem dX4_falls_99 : decode cX4_falls 99 = .ok (.iinc 2 1, 3) := by decide +kernel
theorem dX4_falls_102 : decode cX4_falls 102 = .ok (.goto (-67), 3) := by decide +kernel
theorem dX4_falls_105 : decode cX4_falls 105 = .ok (.bipush (-9), 2) := by decide +kernel
theorem dX4_falls_107 : decode cX4_falls 107 = .ok (.ireturn, 1) := by decide +kernel
abbrev A4_falls (G : GG) (Q : Int32 → MM → Prop) := AW G E0 (MZ G (qI Q)) (WY yX4_falls cX4_falls 4 (some .int)) RX4 cX4_falls 4 (some .int) ({ frames := 4, cells := 0, slots := 0, locals := 94 } : Room) 0 0
def D4_falls_c68 (Q : Int32 → MM → Prop) (x3 : Int32) (M : MM) : Prop := D4_lowestBit x3 M (fun (r10 : Int32) (M11 : MM) => Q r10 M11)
def D4_falls_c91 (K35 : Int32 → Int32 → MM → Prop) (Q : Int32 → MM → Prop) (x1 : Int32) (x2 : Int32) (M : MM) : Prop := D0_goesOn 6 (1 : Int32) M (fun (M13 : MM) => (fun v14 : Int32 => K35 x1 v14 M13) (x2 + (1 : Int32)))
def D4_falls_c73 (K35 : Int32 → Int32 → MM → Prop) (Q : Int32 → MM → Prop) (x1 : Int32) (x2 : Int32) (M : MM) : Prop := ((x1 = (-1 : Int32) → D4_falls_c91 K35 Q x1 x2 M) ∧ (¬ x1 = (-1 : Int32) → D0_stands 6 x1 M (fun (r8 : Int32) (M9 : MM) => ((r8 ≠ 0 → D4_falls_c91 K35 Q x1 x2 M9) ∧ (r8 = 0 → Q x2 M9)))))
def D4_falls_c35 (Q : Int32 → MM → Prop) : Nat → Int32 → Int32 → MM → Prop
  | 0, _, _, _ => False
  | n + 1, x1, x2, M => (((60 : Int32) < x2 → Q (-9 : Int32) M) ∧ (¬ (60 : Int32) < x2 → (fun v7 : Int32 => ((x1 ≠ (-1 : Int32) → D4_falls_c73 (D4_falls_c35 Q n) Q x1 x2 M) ∧ (x1 = (-1 : Int32) → ((v7 = 0 → D4_falls_c73 (D4_falls_c35 Q n) Q x1 x2 M) ∧ (¬ v7 = 0 → D4_falls_c68 Q v7 M))))) ((M 1 5) &&& ((M 6 5) ^^^ (-1 : Int32)))))
def D4_falls_c22 (Q : Int32 → MM → Prop) (x1 : Int32) (M : MM) : Prop := D0_becomes 6 1 M (fun (M6 : MM) => D4_falls_c35 Q FU x1 (0 : Int32) M6)
def D4_falls (x1 : Int32) (M : MM) (Q : Int32 → MM → Prop) : Prop := ((x1 = (-1 : Int32) → D4_falls_c22 Q x1 M) ∧ (¬ x1 = (-1 : Int32) → D0_knows 1 x1 M (fun (r1 : Int32) (M2 : MM) => ((r1 ≠ 0 → D4_falls_c22 Q x1 M2) ∧ (r1 = 0 → D4_refused (-1 : Int32) M2 (fun (r3 : Int32) (M4 : MM) => Q r3 M4))))))
set_option maxHeartbeats 4000000 in
set_option maxRecDepth 100000 in
theorem s4_falls_c68 {G : GG} {Q : Int32 → MM → Prop} : ∀ (x3 : Int32) (M : MM), D4_falls_c68 Q x3 M → A4_falls G Q 68 [(3, .int x3)] [] M := by
  intro x3 M h
  unfold D4_falls_c68 at h
  refine a_iload_n dX4_falls_68 0 rfl ?_
  refine a_callSi (n := 1) [.int _] dX4_falls_69 (s4_lowestBit h) (gS tbc kM_RX4_193_X4_lowestBit kT_X4_lowestBit kN_RX4 kC_X4_lowestBit) rfl (by decide +kernel) ⟨Nat.le_of_ble_eq_true rfl, Nat.le_of_ble_eq_true rfl⟩ rfl rfl (Nat.le_of_ble_eq_true rfl) ⟨Nat.le_refl 0, Nat.le_refl 0⟩ (fun r M h => ?_)
  exact a_iret dX4_falls_72 ⟨_, rfl, h⟩
set_option maxHeartbeats 4000000 in
set_option maxRecDepth 100000 in
theorem s4_falls_c91 {G : GG} {K35 : Int32 → Int32 → MM → Prop} {Q : Int32 → MM → Prop} (hK35 : ∀ (x1 : Int32) (x2 : Int32) (M : MM), K35 x1 x2 M → A4_falls G Q 35 [(0, .ref (gA G 0)), (1, .int x1), (2, .int x2)] [] M) : ∀ (x1 : Int32) (x2 : Int32) (M : MM), D4_falls_c91 K35 Q x1 x2 M → A4_falls G Q 91 [(0, .ref (gA G 0)), (1, .int x1), (2, .int x2)] [] M := by
  intro x1 x2 M h
  unfold D4_falls_c91 at h
  refine a_aload_n dX4_falls_91 0 rfl ?_
  refine a_get2 dX4_falls_92 1 (by decide) (tbc _ kF_RX4_16) (fun w h => tbc _ (uW2 w h)) rfl ob_0 rfl ?_
  refine a_iconst (v := 1) dX4_falls_95 (by decide) ?_
  refine a_callVv (n := 1) [.int _] (C := RX0) (ci := 0) (qc := (RX0, TX0, 9)) (fsF := fl0 G _) ob_6.1 (fun _ => en0 ob_6.2) rfl rfl dX4_falls_96 (s0_goesOn ob_6 h) (gV tbc kM_RX4_155_X0_goesOn kI_X0_goesOn kS_X0_goesOn kN_RX0 kC_X0_goesOn) rfl (by decide +kernel) ⟨Nat.le_of_ble_eq_true rfl, Nat.le_of_ble_eq_true rfl⟩ rfl rfl (Nat.le_of_ble_eq_true rfl) ⟨Nat.le_refl 0, Nat.le_refl 0⟩ (fun M h => ?_)
  refine a_iinc (L' := [(2, .int _), (0, .ref _), (1, .int _)]) dX4_falls_99 2 rfl (show _ + Int32.ofInt (1 : Int) = _ + (1 : Int32) from rfl) (by decide) rfl ?_
  refine a_goto (tgt := 35) dX4_falls_102 (by decide) ?_
  refine a_sub [1, 2, 0] rfl ?_
  exact hK35 _ _ _ h
set_option maxHeartbeats 4000000 in
set_option maxRecDepth 100000 in
theorem s4_falls_c73 {G : GG} {K35 : Int32 → Int32 → MM → Prop} {Q : Int32 → MM → Prop} (hK35 : ∀ (x1 : Int32) (x2 : Int32) (M : MM), K35 x1 x2 M → A4_falls G Q 35 [(0, .ref (gA G 0)), (1, .int x1), (2, .int x2)] [] M) : ∀ (x1 : Int32) (x2 : Int32) (M : MM), D4_falls_c73 K35 Q x1 x2 M → A4_falls G Q 73 [(0, .ref (gA G 0)), (1, .int x1), (2, .int x2)] [] M := by
  intro x1 x2 M h
  unfold D4_falls_c73 at h
  refine a_iload_n dX4_falls_73 1 rfl ?_
  refine a_iconst (v := -1) dX4_falls_74 (by decide) ?_
  refine a_icmp_eq (tgt := 91) dX4_falls_75 (by decide) (fun c => ?_) (fun c => ?_)
  · have h := h.1 c
    refine a_sub [0, 1, 2] rfl ?_
    exact s4_falls_c91 hK35 _ _ _ h
  · have h := h.2 c
    refine a_aload_n dX4_falls_78 0 rfl ?_
    refine a_get2 dX4_falls_79 1 (by decide) (tbc _ kF_RX4_16) (fun w h => tbc _ (uW2 w h)) rfl ob_0 rfl ?_
    refine a_iload_n dX4_falls_82 1 rfl ?_
    refine a_callVi (n := 1) [.int _] (C := RX0) (ci := 0) (qc := (RX0, TX0, 9)) (fsF := fl0 G _) ob_6.1 (fun _ => en0 ob_6.2) rfl rfl dX4_falls_83 (s0_stands ob_6 h) (gV tbc kM_RX4_96_X0_stands kI_X0_stands kS_X0_stands kN_RX0 kC_X0_stands) rfl (by decide +kernel) ⟨Nat.le_of_ble_eq_true rfl, Nat.le_of_ble_eq_true rfl⟩ rfl rfl (Nat.le_of_ble_eq_true rfl) ⟨Nat.le_refl 0, Nat.le_refl 0⟩ (fun r M h => ?_)
    refine a_if_ne (tgt := 91) dX4_falls_86 (by decide) (fun c => ?_) (fun c => ?_)
    · have h := h.1 c
      refine a_sub [0, 1, 2] rfl ?_
      exact s4_falls_c91 hK35 _ _ _ h
    · have h := h.2 c
      refine a_iload_n dX4_falls_89 2 rfl ?_
      exact a_iret dX4_falls_90 ⟨_, rfl, h⟩
set_option maxHeartbeats 4000000 in
set_option maxRecDepth 100000 in
theorem s4_falls_c35 {G : GG} {Q : Int32 → MM → Prop} : ∀ (n : Nat) (x1 : Int32) (x2 : Int32) (M : MM), D4_falls_c35 Q n x1 x2 M → A4_falls G Q 35 [(0, .ref (gA G 0)), (1, .int x1), (2, .int x2)] [] M := by
  intro n
  induction n with
  | zero => intro x1 x2 M h; exact h.elim
  | succ n ih =>
    intro x1 x2 M h
    unfold D4_falls_c35 at h
    refine a_iload_n dX4_falls_35 2 rfl ?_
    refine a_bipush (v := 60) dX4_falls_36 (by decide) ?_
    refine a_icmp_gt (tgt := 105) dX4_falls_38 (by decide) (fun c => ?_) (fun c => ?_)
    · have h := h.1 c
      refine a_bipush (v := -9) dX4_falls_105 (by decide) ?_
      exact a_iret dX4_falls_107 ⟨_, rfl, h⟩
    · have h := h.2 c
      refine a_aload_n dX4_falls_41 0 rfl ?_
      refine a_get2 dX4_falls_42 0 (by decide) (tbc _ kF_RX4_10) (fun w h => tbc _ (uW2 w h)) rfl ob_0 rfl ?_
      refine a_getN0 dX4_falls_45 5 (by decide) (fun _ h => h.2.2.2.2.1) (fun w h => tbc _ (uW0 w h)) rfl ob_1 rfl ?_
      refine a_aload_n dX4_falls_48 0 rfl ?_
      refine a_get2 dX4_falls_49 1 (by decide) (tbc _ kF_RX4_16) (fun w h => tbc _ (uW2 w h)) rfl ob_0 rfl ?_
      refine a_getN0 dX4_falls_52 5 (by decide) (fun _ h => h.2.2.2.2.1) (fun w h => tbc _ (uW0 w h)) rfl ob_6 rfl ?_
      refine a_iconst (v := -1) dX4_falls_55 (by decide) ?_
      refine a_ixor dX4_falls_56 ?_
      refine a_iand dX4_falls_57 ?_
      refine a_istore_n (i := 3) (L' := [(3, .int _), (0, .ref _), (1, .int _), (2, .int _)]) dX4_falls_58 rfl (by decide) rfl ?_
      refine a_iload_n dX4_falls_59 2 rfl ?_
      refine a_iconst (v := -1) dX4_falls_60 (by decide) ?_
      refine a_icmp_ne (tgt := 73) dX4_falls_61 (by decide) (fun c => ?_) (fun c => ?_)
      · have h := h.1 c
        refine a_sub [1, 2, 3] rfl ?_
        exact s4_falls_c73 ih _ _ _ h
      · have h := h.2 c
        refine a_iload_n dX4_falls_64 0 rfl ?_
        refine a_if_eq (tgt := 73) dX4_falls_65 (by decide) (fun c => ?_) (fun c => ?_)
        · have h := h.1 c
          refine a_sub [1, 2, 3] rfl ?_
          exact s4_falls_c73 ih _ _ _ h
        · have h := h.2 c
          refine a_sub [0] rfl ?_
          exact s4_falls_c68 _ _ h
set_option maxHeartbeats 4000000 in
set_option maxRecDepth 100000 in
theorem s4_falls_c22 {G : GG} {Q : Int32 → MM → Prop} : ∀ (x1 : Int32) (M : MM), D4_falls_c22 Q x1 M → A4_falls G Q 22 [(0, .ref (gA G 0)), (1, .int x1)] [] M := by
  intro x1 M h
  unfold D4_falls_c22 at h
  refine a_aload_n dX4_falls_22 0 rfl ?_
  refine a_get2 dX4_falls_23 1 (by decide) (tbc _ kF_RX4_16) (fun w h => tbc _ (uW2 w h)) rfl ob_0 rfl ?_
  refine a_aload_n dX4_falls_26 0 rfl ?_
  refine a_get2 dX4_falls_27 0 (by decide) (tbc _ kF_RX4_10) (fun w h => tbc _ (uW2 w h)) rfl ob_0 rfl ?_
  refine a_callVv (n := 1) [.ref _] (C := RX0) (ci := 0) (qc := (RX0, TX0, 9)) (fsF := fl0 G _) ob_6.1 (fun _ => en0 ob_6.2) rfl rfl dX4_falls_30 (s0_becomes ob_6 ob_1 h) (gV tbc kM_RX4_65_X0_becomes kI_X0_becomes kS_X0_becomes kN_RX0 kC_X0_becomes) rfl (by decide +kernel) ⟨Nat.le_of_ble_eq_true rfl, Nat.le_of_ble_eq_true rfl⟩ rfl rfl (Nat.le_of_ble_eq_true rfl) ⟨Nat.le_refl 0, Nat.le_refl 0⟩ (fun M h => ?_)
  refine a_iconst (v := 0) dX4_falls_33 (by decide) ?_
  refine a_istore_n (i := 2) (L' := [(2, .int _), (0, .ref _), (1, .int _)]) dX4_falls_34 rfl (by decide) rfl ?_
  refine a_sub [1, 2, 0] rfl ?_
  exact s4_falls_c35 _ _ _ _ h
set_option maxHeartbeats 4000000 in
set_option maxRecDepth 100000 in
theorem s4_falls {G : GG} {x1 : Int32} {M : MM} {Q : Int32 → MM → Prop} (h : D4_falls x1 M Q) : CM G yX4_falls (WY yX4_falls cX4_falls 4 (some .int)) 4 94 [.ref (gA G 0), .int x1] M (qI Q) := by
  refine CM.of (cc := cX4_falls) (nL := 4) (ret := (some .int)) (own := RX4) (by decide +kernel) rfl rfl (Nat.le_of_ble_eq_true rfl) ?_
  show A4_falls G Q 0 [(0, .ref (gA G 0)), (1, .int x1)] [] M
  unfold D4_falls at h
  refine a_iload_n dX4_falls_0 1 rfl ?_
  refine a_iconst (v := -1) dX4_falls_1 (by decide) ?_
  refine a_icmp_eq (tgt := 22) dX4_falls_2 (by decide) (fun c => ?_) (fun c => ?_)
  · have h := h.1 c
    refine a_sub [0, 1] rfl ?_
    exact s4_falls_c22 _ _ h
  · have h := h.2 c
    refine a_aload_n dX4_falls_5 0 rfl ?_
    refine a_get2 dX4_falls_6 0 (by decide) (tbc _ kF_RX4_10) (fun w h => tbc _ (uW2 w h)) rfl ob_0 rfl ?_
    refine a_iload_n dX4_falls_9 1 rfl ?_
    refine a_callVi (n := 1) [.int _] (C := RX0) (ci := 0) (qc := (RX0, TX0, 9)) (fsF := fl0 G _) ob_1.1 (fun _ => en0 ob_1.2) rfl rfl dX4_falls_10 (s0_knows ob_1 h) (gV tbc kM_RX4_80_X0_knows kI_X0_knows kS_X0_knows kN_RX0 kC_X0_knows) rfl (by decide +kernel) ⟨Nat.le_of_ble_eq_true rfl, Nat.le_of_ble_eq_true rfl⟩ rfl rfl (Nat.le_of_ble_eq_true rfl) ⟨Nat.le_refl 0, Nat.le_refl 0⟩ (fun r M h => ?_)
    refine a_if_ne (tgt := 22) dX4_falls_13 (by decide) (fun c => ?_) (fun c => ?_)
    · have h := h.1 c
      refine a_sub [0, 1] rfl ?_
      exact s4_falls_c22 _ _ h
    · have h := h.2 c
      refine a_aload_n dX4_falls_16 0 rfl ?_
      refine a_iconst (v := -1) dX4_falls_17 (by decide) ?_
      refine a_callVi (n := 1) [.int _] (C := RX4) (ci := 2) (qc := (RX4, TX4, 12)) (fsF := fl2 G _) ob_0.1 (fun _ => en2 ob_0.2) rfl rfl dX4_falls_18 (s4_refused h) (gV tbc kM_RX4_43_X4_refused kI_X4_refused kS_X4_refused kN_RX4 kC_X4_refused) rfl (by decide +kernel) ⟨Nat.le_of_ble_eq_true rfl, Nat.le_of_ble_eq_true rfl⟩ rfl rfl (Nat.le_of_ble_eq_true rfl) ⟨Nat.le_refl 0, Nat.le_refl 0⟩ (fun r M h => ?_)
      exact a_iret dX4_falls_21 ⟨_, rfl, h⟩

/-! X4_feed -/
theorem dX4_feed_0 : decode cX4_feed 0 = .ok (.iload_n 1, 1) := by decide +kernel
theorem dX4_feed_1 : decode cX4_feed 1 = .ok (.ifCond .ge 10, 3) := by decide +kernel
theorem dX4_feed_4 : decode cX4_feed 4 = .ok (.aload_n 0, 1) := by decide +kernel
theorem dX4_feed_5 : decode cX4_feed 5 = .ok (.bipush (-4), 2) := by decide +kernel
theorem dX4_feed_7 : decode cX4_feed 7 = .ok (.invokevirtual 43, 3) := by decide +kernel
theorem dX4_feed_10 : decode cX4_feed 10 = .ok (.ireturn, 1) := by decide +kernel
theorem dX4_feed_11 : decode cX4_feed 11 = .ok (.iload_n 1, 1) := by decide +kernel
theorem dX4_feed_12 : decode cX4_feed 12 = .ok (.sipush 255, 3) := by decide +kernel
theorem dX4_feed_15 : decode cX4_feed 15 = .ok (.if_icmp .gt 13, 3) := by decide +kernel
theorem dX4_feed_18 : decode cX4_feed 18 = .ok (.aload_n 0, 1) := by decide +kernel
theorem dX4_feed_19 : decode cX4_feed 19 = .ok (.getfield 29, 3) := by decide +kernel
theorem dX4_feed_22 : decode cX4_feed 22 = .ok (.invokevirtual 47, 3) := by decide +kernel
theorem dX4_feed_25 : decode cX4_feed 25 = .ok (.ifCond .eq 10, 3) := by decide +kernel
theorem dX4_feed_28 : decode cX4_feed 28 = .ok (.aload_n 0, 1) := by decide +kernel
theorem dX4_feed_29 : decode cX4_feed 29 = .ok (.bipush (-6), 2) := by decide +kernel
theorem dX4_feed_31 : decode cX4_feed 31 = .ok (.invokevirtual 43, 3) := by decide +kernel
theorem dX4_feed_34 : decode cX4_feed 34 = .ok (.ireturn, 1) := by decide +kernel
theorem dX4_feed_35 : decode cX4_feed 35 = .ok (.aload_n 0, 1) := by decide +kernel
theorem dX4_feed_36 : decode cX4_feed 36 = .ok (.getfield 29, 3) := by decide +kernel
theorem dX4_feed_39 : decode cX4_feed 39 = .ok (.iload_n 1, 1) := by decide +kernel
theorem dX4_feed_40 : decode cX4_feed 40 = .ok (.invokevirtual 51, 3) := by decide +kernel
theorem dX4_feed_43 : decode cX4_feed 43 = .ok (.aload_n 0, 1) := by decide +kernel
theorem dX4_feed_44 : decode cX4_feed 44 = .ok (.getfield 29, 3) := by decide +kernel
theorem dX4_feed_47 : decode cX4_feed 47 = .ok (.invokevirtual 55, 3) := by decide +kernel
theorem dX4_feed_50 : decode cX4_feed 50 = .ok (.ireturn, 1) := by decide +kernel
abbrev A4_feed (G : GG) (Q : Int32 → MM → Prop) := AW G E0 (MZ G (qI Q)) (WY yX4_feed cX4_feed 2 (some .int)) RX4 cX4_feed 2 (some .int) ({ frames := 1, cells := 0, slots := 0, locals := 22 } : Room) 0 0
def D4_feed_c28 (Q : Int32 → MM → Prop) (M : MM) : Prop := D4_refused (-6 : Int32) M (fun (r9 : Int32) (M10 : MM) => Q r9 M10)
def D4_feed (x1 : Int32) (M : MM) (Q : Int32 → MM → Prop) : Prop := ((0 ≤ x1 → (((255 : Int32) < x1 → D4_feed_c28 Q M) ∧ (¬ (255 : Int32) < x1 → D2_isFull M (fun (r1 : Int32) (M2 : MM) => ((r1 = 0 → D2_add x1 M2 (fun (M4 : MM) => D2_size M4 (fun (r5 : Int32) (M6 : MM) => Q r5 M6))) ∧ (¬ r1 = 0 → D4_feed_c28 Q M2)))))) ∧ (¬ 0 ≤ x1 → D4_refused (-4 : Int32) M (fun (r7 : Int32) (M8 : MM) => Q r7 M8)))
set_option maxHeartbeats 4000000 in
set_option maxRecDepth 100000 in
theorem s4_feed_c28 {G : GG} {Q : Int32 → MM → Prop} : ∀  (M : MM), D4_feed_c28 Q M → A4_feed G Q 28 [(0, .ref (gA G 0))] [] M := by
  intro  M h
  unfold D4_feed_c28 at h
  refine a_aload_n dX4_feed_28 0 rfl ?_
  refine a_bipush (v := -6) dX4_feed_29 (by decide) ?_
  refine a_callVi (n := 1) [.int _] (C := RX4) (ci := 2) (qc := (RX4, TX4, 12)) (fsF := fl2 G _) ob_0.1 (fun _ => en2 ob_0.2) rfl rfl dX4_feed_31 (s4_refused h) (gV tbc kM_RX4_43_X4_refused kI_X4_refused kS_X4_refused kN_RX4 kC_X4_refused) rfl (by decide +kernel) ⟨Nat.le_of_ble_eq_true rfl, Nat.le_of_ble_eq_true rfl⟩ rfl rfl (Nat.le_of_ble_eq_true rfl) ⟨Nat.le_refl 0, Nat.le_refl 0⟩ (fun r M h => ?_)
  exact a_iret dX4_feed_34 ⟨_, rfl, h⟩
set_option maxHeartbeats 4000000 in
set_option maxRecDepth 100000 in
theorem s4_feed {G : GG} {x1 : Int32} {M : MM} {Q : Int32 → MM → Prop} (h : D4_feed x1 M Q) : CM G yX4_feed (WY yX4_feed cX4_feed 2 (some .int)) 1 22 [.ref (gA G 0), .int x1] M (qI Q) := by
  refine CM.of (cc := cX4_feed) (nL := 2) (ret := (some .int)) (own := RX4) (by decide +kernel) rfl rfl (Nat.le_of_ble_eq_true rfl) ?_
  show A4_feed G Q 0 [(0, .ref (gA G 0)), (1, .int x1)] [] M
  unfold D4_feed at h
  refine a_iload_n dX4_feed_0 1 rfl ?_
  refine a_if_ge (tgt := 11) dX4_feed_1 (by decide) (fun c => ?_) (fun c => ?_)
  · have h := h.1 c
    refine a_iload_n dX4_feed_11 1 rfl ?_
    refine a_sipush (v := 255) dX4_feed_12 (by decide) ?_
    refine a_icmp_gt (tgt := 28) dX4_feed_15 (by decide) (fun c => ?_) (fun c => ?_)
    · have h := h.1 c
      refine a_sub [0] rfl ?_
      exact s4_feed_c28 _ h
    · have h := h.2 c
      refine a_aload_n dX4_feed_18 0 rfl ?_
      refine a_get2 dX4_feed_19 4 (by decide) (tbc _ kF_RX4_29) (fun w h => tbc _ (uW2 w h)) rfl ob_0 rfl ?_
      refine a_callVi (n := 0) [] (C := RX2) (ci := 1) (qc := (RX2, TX2, 2)) (fsF := fl1 G _) ob_57.1 (fun _ => en1 ob_57.2) rfl rfl dX4_feed_22 (s2_isFull h) (gV tbc kM_RX4_47_X2_isFull kI_X2_isFull kS_X2_isFull kN_RX2 kC_X2_isFull) rfl (by decide +kernel) ⟨Nat.le_of_ble_eq_true rfl, Nat.le_of_ble_eq_true rfl⟩ rfl rfl (Nat.le_of_ble_eq_true rfl) ⟨Nat.le_refl 0, Nat.le_refl 0⟩ (fun r M h => ?_)
      refine a_if_eq (tgt := 35) dX4_feed_25 (by decide) (fun c => ?_) (fun c => ?_)
      · have h := h.1 c
        refine a_aload_n dX4_feed_35 0 rfl ?_
        refine a_get2 dX4_feed_36 4 (by decide) (tbc _ kF_RX4_29) (fun w h => tbc _ (uW2 w h)) rfl ob_0 rfl ?_
        refine a_iload_n dX4_feed_39 1 rfl ?_
        refine a_callVv (n := 1) [.int _] (C := RX2) (ci := 1) (qc := (RX2, TX2, 2)) (fsF := fl1 G _) ob_57.1 (fun _ => en1 ob_57.2) rfl rfl dX4_feed_40 (s2_add h) (gV tbc kM_RX4_51_X2_add kI_X2_add kS_X2_add kN_RX2 kC_X2_add) rfl (by decide +kernel) ⟨Nat.le_of_ble_eq_true rfl, Nat.le_of_ble_eq_true rfl⟩ rfl rfl (Nat.le_of_ble_eq_true rfl) ⟨Nat.le_refl 0, Nat.le_refl 0⟩ (fun M h => ?_)
        refine a_aload_n dX4_feed_43 0 rfl ?_
        refine a_get2 dX4_feed_44 4 (by decide) (tbc _ kF_RX4_29) (fun w h => tbc _ (uW2 w h)) rfl ob_0 rfl ?_
        refine a_callVi (n := 0) [] (C := RX2) (ci := 1) (qc := (RX2, TX2, 2)) (fsF := fl1 G _) ob_57.1 (fun _ => en1 ob_57.2) rfl rfl dX4_feed_47 (s2_size h) (gV tbc kM_RX4_55_X2_size kI_X2_size kS_X2_size kN_RX2 kC_X2_size) rfl (by decide +kernel) ⟨Nat.le_of_ble_eq_true rfl, Nat.le_of_ble_eq_true rfl⟩ rfl rfl (Nat.le_of_ble_eq_true rfl) ⟨Nat.le_refl 0, Nat.le_refl 0⟩ (fun r M h => ?_)
        exact a_iret dX4_feed_50 ⟨_, rfl, h⟩
      · have h := h.2 c
        refine a_sub [0] rfl ?_
        exact s4_feed_c28 _ h
  · have h := h.2 c
    refine a_aload_n dX4_feed_4 0 rfl ?_
    refine a_bipush (v := -4) dX4_feed_5 (by decide) ?_
    refine a_callVi (n := 1) [.int _] (C := RX4) (ci := 2) (qc := (RX4, TX4, 12)) (fsF := fl2 G _) ob_0.1 (fun _ => en2 ob_0.2) rfl rfl dX4_feed_7 (s4_refused h) (gV tbc kM_RX4_43_X4_refused kI_X4_refused kS_X4_refused kN_RX4 kC_X4_refused) rfl (by decide +kernel) ⟨Nat.le_of_ble_eq_true rfl, Nat.le_of_ble_eq_true rfl⟩ rfl rfl (Nat.le_of_ble_eq_true rfl) ⟨Nat.le_refl 0, Nat.le_refl 0⟩ (fun r M h => ?_)
    exact a_iret dX4_feed_10 ⟨_, rfl, h⟩

/-! X4_staysDry -/
theorem dX4_staysDry_0 : decode cX4_staysDry 0 = .ok (.aload_n 0, 1) := by decide +kernel
theorem dX4_staysDry_1 : decode cX4_staysDry 1 = .ok (.getfield 16, 3) := by decide +kernel
theorem dX4_staysDry_4 : decode cX4_staysDry 4 = .ok (.aload_n 0, 1) := by decide +kernel
theorem dX4_staysDry_5 : decode cX4_staysDry 5 = .ok (.getfield 10, 3) := by decide +kernel
theorem dX4_staysDry_8 : decode cX4_staysDry 8 = .ok (.invokevirtual 65, 3) := by decide +kernel
theorem dX4_staysDry_11 : decode cX4_staysDry 11 = .ok (.iload_n 3, 1) := by decide +kernel
theorem dX4_staysDry_12 : decode cX4_staysDry 12 = .ok (.ifCond .lt 14, 3) := by decide +kernel
theorem dX4_staysDry_15 : decode cX4_staysDry 15 = .ok (.aload_n 0, 1) := by decide +kernel
theorem dX4_staysDry_16 : decode cX4_staysDry 16 = .ok (.getfield 16, 3) := by decide +kernel
theorem dX4_staysDry_19 : decode cX4_staysDry 19 = .ok (.iconst 0, 1) := by decide +kernel
theorem dX4_staysDry_20 : decode cX4_staysDry 20 = .ok (.bipush 9, 2) := by decide +kernel
theorem dX4_staysDry_22 : decode cX4_staysDry 22 = .ok (.iload_n 3, 1) := by decide +kernel
theorem dX4_staysDry_23 : decode cX4_staysDry 23 = .ok (.invokevirtual 126, 3) := by decide +kernel
theorem dX4_staysDry_26 : decode cX4_staysDry 26 = .ok (.iload 4, 2) := by decide +kernel
theorem dX4_staysDry_28 : decode cX4_staysDry 28 = .ok (.ifCond .lt 15, 3) := by decide +kernel
theorem dX4_staysDry_31 : decode cX4_staysDry 31 = .ok (.aload_n 0, 1) := by decide +kernel
theorem dX4_staysDry_32 : decode cX4_staysDry 32 = .ok (.getfield 16, 3) := by decide +kernel
theorem dX4_staysDry_35 : decode cX4_staysDry 35 = .ok (.iconst 0, 1) := by decide +kernel
theorem dX4_staysDry_36 : decode cX4_staysDry 36 = .ok (.bipush 9, 2) := by decide +kernel
theorem dX4_staysDry_38 : decode cX4_staysDry 38 = .ok (.iload 4, 2) := by decide +kernel
theorem dX4_staysDry_40 : decode cX4_staysDry 40 = .ok (.invokevirtual 126, 3) := by decide +kernel
theorem dX4_staysDry_43 : decode cX4_staysDry 43 = .ok (.iconst 0, 1) := by decide +kernel
theorem dX4_staysDry_44 : decode cX4_staysDry 44 = .ok (.istore 5, 2) := by decide +kernel
theorem dX4_staysDry_46 : decode cX4_staysDry 46 = .ok (.iload 5, 2) := by decide +kernel
theorem dX4_staysDry_48 : decode cX4_staysDry 48 = .ok (.iload_n 2, 1) := by decide +kernel
theorem dX4_staysDry_49 : decode cX4_staysDry 49 = .ok (.if_icmp .ge 33, 3) := by decide +kernel
theorem dX4_staysDry_52 : decode cX4_staysDry 52 = .ok (.aload_n 0, 1) := by decide +kernel
theorem dX4_staysDry_53 : decode cX4_staysDry 53 = .ok (.getfield 16, 3) := by decide +kernel
theorem dX4_staysDry_56 : decode cX4_staysDry 56 = .ok (.invokevirtual 180, 3) := by decide +kernel
theorem dX4_staysDry_59 : decode cX4_staysDry 59 = .ok (.iload_n 1, 1) := by decide +kernel
theorem dX4_staysDry_60 : decode cX4_staysDry 60 = .ok (.invokestatic 186, 3) := by decide +kernel
theorem dX4_staysDry_63 : decode cX4_staysDry 63 = .ok (.ifCond .eq 5, 3) := by decide +kernel
theorem dX4_staysDry_66 : decode cX4_staysDry 66 = .ok (.iconst 0, 1) := by decide +kernel
theorem dX4_staysDry_67 : decode cX4_staysDry 67 = .ok (.ireturn, 1) := by decide +kernel
theorem dX4_staysDry_68 : decode cX4_staysDry 68 = .ok (.aload_n 0, 1) := by decide +kernel
theorem dX4_staysDry_69 : decode cX4_staysDry 69 = .ok (.getfield 16, 3) := by decide +kernel
theorem dX4_staysDry_72 : decode cX4_staysDry 72 = .ok (.iconst 1, 1) := by decide +kernel
theorem dX4_staysDry_73 : decode cX4_staysDry 73 = .ok (.invokevirtual 155, 3) := by decide +kernel
theorem dX4_staysDry_76 : decode cX4_staysDry 76 = .ok (.iinc 5 1, 3) := by decide +kernel
theorem dX4_staysDry_79 : decode cX4_staysDry 79 = .ok (.goto (-33), 3) := by decide +kernel
theorem dX4_staysDry_82 : decode cX4_staysDry 82 = .ok (.aload_n 0, 1) := by decide +kernel
theorem dX4_staysDry_83 : decode cX4_staysDry 83 = .ok (.getfield 16, 3) := by decide +kernel
theorem dX4_staysDry_86 : decode cX4_staysDry 86 = .ok (.invokevirtual 180, 3) := by decide +kernel
theorem dX4_staysDry_89 : decode cX4_staysDry 89 = .ok (.iload_n 1, 1) := by decide +kernel
theorem dX4_staysDry_90 : decode cX4_staysDry 90 = .ok (.invokestatic 186, 3) := by decide +kernel
theorem dX4_staysDry_93 : decode cX4_staysDry 93 = .ok (.ifCond .ne 7, 3) := by decide +kernel
theorem dX4_staysDry_96 : decode cX4_staysDry 96 = .ok (.iconst 1, 1) := by decide +kernel
theorem dX4_staysDry_97 : decode cX4_staysDry 97 = .ok (.goto 4, 3) := by decide +kernel
theorem dX4_staysDry_100 : decode cX4_staysDry 100 = .ok (.iconst 0, 1) := by decide +kernel
theorem dX4_staysDry_101 : decode cX4_staysDry 101 = .ok (.ireturn, 1) := by decide +kernel
abbrev A4_staysDry (G : GG) (Q : Int32 → MM → Prop) := AW G E0 (MZ G (qI Q)) (WY yX4_staysDry cX4_staysDry 6 (some .boolean)) RX4 cX4_staysDry 6 (some .boolean) ({ frames := 4, cells := 0, slots := 0, locals := 94 } : Room) 0 0
def D4_staysDry_c82 (Q : Int32 → MM → Prop) (x1 : Int32) (M : MM) : Prop := D0_wetNow 6 M (fun (r14 : Int32) (M15 : MM) => D3_has r14 x1 M15 (fun (r16 : Int32) (M17 : MM) => ((r16 ≠ 0 → Q (0 : Int32) M17) ∧ (r16 = 0 → Q (1 : Int32) M17))))
def D4_staysDry_c46 (Q : Int32 → MM → Prop) : Nat → Int32 → Int32 → Int32 → MM → Prop
  | 0, _, _, _, _ => False
  | n + 1, x1, x2, x5, M => ((x2 ≤ x5 → D4_staysDry_c82 Q x1 M) ∧ (¬ x2 ≤ x5 → D0_wetNow 6 M (fun (r7 : Int32) (M8 : MM) => D3_has r7 x1 M8 (fun (r9 : Int32) (M10 : MM) => ((r9 = 0 → D0_goesOn 6 (1 : Int32) M10 (fun (M12 : MM) => (fun v13 : Int32 => D4_staysDry_c46 Q n x1 x2 v13 M12) (x5 + (1 : Int32)))) ∧ (¬ r9 = 0 → Q (0 : Int32) M10))))))
def D4_staysDry_c43 (Q : Int32 → MM → Prop) (x1 : Int32) (x2 : Int32) (M : MM) : Prop := D4_staysDry_c46 Q FU x1 x2 (0 : Int32) M
def D4_staysDry_c26 (Q : Int32 → MM → Prop) (x1 : Int32) (x2 : Int32) (x4 : Int32) (M : MM) : Prop := ((x4 < 0 → D4_staysDry_c43 Q x1 x2 M) ∧ (¬ x4 < 0 → D0_builds 6 (0 : Int32) (9 : Int32) x4 M (fun (M6 : MM) => D4_staysDry_c43 Q x1 x2 M6)))
def D4_staysDry (x1 : Int32) (x2 : Int32) (x3 : Int32) (x4 : Int32) (M : MM) (Q : Int32 → MM → Prop) : Prop := D0_becomes 6 1 M (fun (M2 : MM) => ((x3 < 0 → D4_staysDry_c26 Q x1 x2 x4 M2) ∧ (¬ x3 < 0 → D0_builds 6 (0 : Int32) (9 : Int32) x3 M2 (fun (M4 : MM) => D4_staysDry_c26 Q x1 x2 x4 M4))))
set_option maxHeartbeats 4000000 in
set_option maxRecDepth 100000 in
theorem s4_staysDry_c82 {G : GG} {Q : Int32 → MM → Prop} : ∀ (x1 : Int32) (M : MM), D4_staysDry_c82 Q x1 M → A4_staysDry G Q 82 [(0, .ref (gA G 0)), (1, .int x1)] [] M := by
  intro x1 M h
  unfold D4_staysDry_c82 at h
  refine a_aload_n dX4_staysDry_82 0 rfl ?_
  refine a_get2 dX4_staysDry_83 1 (by decide) (tbc _ kF_RX4_16) (fun w h => tbc _ (uW2 w h)) rfl ob_0 rfl ?_
  refine a_callVi (n := 0) [] (C := RX0) (ci := 0) (qc := (RX0, TX0, 9)) (fsF := fl0 G _) ob_6.1 (fun _ => en0 ob_6.2) rfl rfl dX4_staysDry_86 (s0_wetNow ob_6 h) (gV tbc kM_RX4_180_X0_wetNow kI_X0_wetNow kS_X0_wetNow kN_RX0 kC_X0_wetNow) rfl (by decide +kernel) ⟨Nat.le_of_ble_eq_true rfl, Nat.le_of_ble_eq_true rfl⟩ rfl rfl (Nat.le_of_ble_eq_true rfl) ⟨Nat.le_refl 0, Nat.le_refl 0⟩ (fun r M h => ?_)
  refine a_iload_n dX4_staysDry_89 1 rfl ?_
  refine a_callSi (n := 2) [.int _, .int _] dX4_staysDry_90 (s3_has h) (gS tbc kM_RX4_186_X3_has kT_X3_has kN_RX3 kC_X3_has) rfl (by decide +kernel) ⟨Nat.le_of_ble_eq_true rfl, Nat.le_of_ble_eq_true rfl⟩ rfl rfl (Nat.le_of_ble_eq_true rfl) ⟨Nat.le_refl 0, Nat.le_refl 0⟩ (fun r M h => ?_)
  refine a_if_ne (tgt := 100) dX4_staysDry_93 (by decide) (fun c => ?_) (fun c => ?_)
  · have h := h.1 c
    refine a_iconst (v := 0) dX4_staysDry_100 (by decide) ?_
    exact a_zret dX4_staysDry_101 (Or.inl rfl) ⟨_, rfl, h⟩
  · have h := h.2 c
    refine a_iconst (v := 1) dX4_staysDry_96 (by decide) ?_
    refine a_goto (tgt := 101) dX4_staysDry_97 (by decide) ?_
    exact a_zret dX4_staysDry_101 (Or.inr rfl) ⟨_, rfl, h⟩
set_option maxHeartbeats 4000000 in
set_option maxRecDepth 100000 in
theorem s4_staysDry_c46 {G : GG} {Q : Int32 → MM → Prop} : ∀ (n : Nat) (x1 : Int32) (x2 : Int32) (x5 : Int32) (M : MM), D4_staysDry_c46 Q n x1 x2 x5 M → A4_staysDry G Q 46 [(0, .ref (gA G 0)), (1, .int x1), (2, .int x2), (5, .int x5)] [] M := by
  intro n
  induction n with
  | zero => intro x1 x2 x5 M h; exact h.elim
  | succ n ih =>
    intro x1 x2 x5 M h
    unfold D4_staysDry_c46 at h
    refine a_iload dX4_staysDry_46 3 rfl ?_
    refine a_iload_n dX4_staysDry_48 2 rfl ?_
    refine a_icmp_ge (tgt := 82) dX4_staysDry_49 (by decide) (fun c => ?_) (fun c => ?_)
    · have h := h.1 c
      refine a_sub [0, 1] rfl ?_
      exact s4_staysDry_c82 _ _ h
    · have h := h.2 c
      refine a_aload_n dX4_staysDry_52 0 rfl ?_
      refine a_get2 dX4_staysDry_53 1 (by decide) (tbc _ kF_RX4_16) (fun w h => tbc _ (uW2 w h)) rfl ob_0 rfl ?_
      refine a_callVi (n := 0) [] (C := RX0) (ci := 0) (qc := (RX0, TX0, 9)) (fsF := fl0 G _) ob_6.1 (fun _ => en0 ob_6.2) rfl rfl dX4_staysDry_56 (s0_wetNow ob_6 h) (gV tbc kM_RX4_180_X0_wetNow kI_X0_wetNow kS_X0_wetNow kN_RX0 kC_X0_wetNow) rfl (by decide +kernel) ⟨Nat.le_of_ble_eq_true rfl, Nat.le_of_ble_eq_true rfl⟩ rfl rfl (Nat.le_of_ble_eq_true rfl) ⟨Nat.le_refl 0, Nat.le_refl 0⟩ (fun r M h => ?_)
      refine a_iload_n dX4_staysDry_59 1 rfl ?_
      refine a_callSi (n := 2) [.int _, .int _] dX4_staysDry_60 (s3_has h) (gS tbc kM_RX4_186_X3_has kT_X3_has kN_RX3 kC_X3_has) rfl (by decide +kernel) ⟨Nat.le_of_ble_eq_true rfl, Nat.le_of_ble_eq_true rfl⟩ rfl rfl (Nat.le_of_ble_eq_true rfl) ⟨Nat.le_refl 0, Nat.le_refl 0⟩ (fun r M h => ?_)
      refine a_if_eq (tgt := 68) dX4_staysDry_63 (by decide) (fun c => ?_) (fun c => ?_)
      · have h := h.1 c
        refine a_aload_n dX4_staysDry_68 0 rfl ?_
        refine a_get2 dX4_staysDry_69 1 (by decide) (tbc _ kF_RX4_16) (fun w h => tbc _ (uW2 w h)) rfl ob_0 rfl ?_
        refine a_iconst (v := 1) dX4_staysDry_72 (by decide) ?_
        refine a_callVv (n := 1) [.int _] (C := RX0) (ci := 0) (qc := (RX0, TX0, 9)) (fsF := fl0 G _) ob_6.1 (fun _ => en0 ob_6.2) rfl rfl dX4_staysDry_73 (s0_goesOn ob_6 h) (gV tbc kM_RX4_155_X0_goesOn kI_X0_goesOn kS_X0_goesOn kN_RX0 kC_X0_goesOn) rfl (by decide +kernel) ⟨Nat.le_of_ble_eq_true rfl, Nat.le_of_ble_eq_true rfl⟩ rfl rfl (Nat.le_of_ble_eq_true rfl) ⟨Nat.le_refl 0, Nat.le_refl 0⟩ (fun M h => ?_)
        refine a_iinc (L' := [(5, .int _), (0, .ref _), (1, .int _), (2, .int _)]) dX4_staysDry_76 3 rfl (show _ + Int32.ofInt (1 : Int) = _ + (1 : Int32) from rfl) (by decide) rfl ?_
        refine a_goto (tgt := 46) dX4_staysDry_79 (by decide) ?_
        refine a_sub [1, 2, 3, 0] rfl ?_
        exact ih _ _ _ _ h
      · have h := h.2 c
        refine a_iconst (v := 0) dX4_staysDry_66 (by decide) ?_
        exact a_zret dX4_staysDry_67 (Or.inl rfl) ⟨_, rfl, h⟩
set_option maxHeartbeats 4000000 in
set_option maxRecDepth 100000 in
theorem s4_staysDry_c43 {G : GG} {Q : Int32 → MM → Prop} : ∀ (x1 : Int32) (x2 : Int32) (M : MM), D4_staysDry_c43 Q x1 x2 M → A4_staysDry G Q 43 [(0, .ref (gA G 0)), (1, .int x1), (2, .int x2)] [] M := by
  intro x1 x2 M h
  unfold D4_staysDry_c43 at h
  refine a_iconst (v := 0) dX4_staysDry_43 (by decide) ?_
  refine a_istore (i := 5) (L' := [(5, .int _), (0, .ref _), (1, .int _), (2, .int _)]) dX4_staysDry_44 (by decide) rfl ?_
  refine a_sub [1, 2, 3, 0] rfl ?_
  exact s4_staysDry_c46 _ _ _ _ _ h
set_option maxHeartbeats 4000000 in
set_option maxRecDepth 100000 in
theorem s4_staysDry_c26 {G : GG} {Q : Int32 → MM → Prop} : ∀ (x1 : Int32) (x2 : Int32) (x4 : Int32) (M : MM), D4_staysDry_c26 Q x1 x2 x4 M → A4_staysDry G Q 26 [(0, .ref (gA G 0)), (1, .int x1), (2, .int x2), (4, .int x4)] [] M := by
  intro x1 x2 x4 M h
  unfold D4_staysDry_c26 at h
  refine a_iload dX4_staysDry_26 3 rfl ?_
  refine a_if_lt (tgt := 43) dX4_staysDry_28 (by decide) (fun c => ?_) (fun c => ?_)
  · have h := h.1 c
    refine a_sub [0, 1, 2] rfl ?_
    exact s4_staysDry_c43 _ _ _ h
  · have h := h.2 c
    refine a_aload_n dX4_staysDry_31 0 rfl ?_
    refine a_get2 dX4_staysDry_32 1 (by decide) (tbc _ kF_RX4_16) (fun w h => tbc _ (uW2 w h)) rfl ob_0 rfl ?_
    refine a_iconst (v := 0) dX4_staysDry_35 (by decide) ?_
    refine a_bipush (v := 9) dX4_staysDry_36 (by decide) ?_
    refine a_iload dX4_staysDry_38 3 rfl ?_
    refine a_callVv (n := 3) [.int _, .int _, .int _] (C := RX0) (ci := 0) (qc := (RX0, TX0, 9)) (fsF := fl0 G _) ob_6.1 (fun _ => en0 ob_6.2) rfl rfl dX4_staysDry_40 (s0_builds ob_6 h) (gV tbc kM_RX4_126_X0_builds kI_X0_builds kS_X0_builds kN_RX0 kC_X0_builds) rfl (by decide +kernel) ⟨Nat.le_of_ble_eq_true rfl, Nat.le_of_ble_eq_true rfl⟩ rfl rfl (Nat.le_of_ble_eq_true rfl) ⟨Nat.le_refl 0, Nat.le_refl 0⟩ (fun M h => ?_)
    refine a_sub [0, 1, 2] rfl ?_
    exact s4_staysDry_c43 _ _ _ h
set_option maxHeartbeats 4000000 in
set_option maxRecDepth 100000 in
theorem s4_staysDry {G : GG} {x1 : Int32} {x2 : Int32} {x3 : Int32} {x4 : Int32} {M : MM} {Q : Int32 → MM → Prop} (h : D4_staysDry x1 x2 x3 x4 M Q) : CM G yX4_staysDry (WY yX4_staysDry cX4_staysDry 6 (some .boolean)) 4 94 [.ref (gA G 0), .int x1, .int x2, .int x3, .int x4] M (qI Q) := by
  refine CM.of (cc := cX4_staysDry) (nL := 6) (ret := (some .boolean)) (own := RX4) (by decide +kernel) rfl rfl (Nat.le_of_ble_eq_true rfl) ?_
  show A4_staysDry G Q 0 [(0, .ref (gA G 0)), (1, .int x1), (2, .int x2), (3, .int x3), (4, .int x4)] [] M
  unfold D4_staysDry at h
  refine a_aload_n dX4_staysDry_0 0 rfl ?_
  refine a_get2 dX4_staysDry_1 1 (by decide) (tbc _ kF_RX4_16) (fun w h => tbc _ (uW2 w h)) rfl ob_0 rfl ?_
  refine a_aload_n dX4_staysDry_4 0 rfl ?_
  refine a_get2 dX4_staysDry_5 0 (by decide) (tbc _ kF_RX4_10) (fun w h => tbc _ (uW2 w h)) rfl ob_0 rfl ?_
  refine a_callVv (n := 1) [.ref _] (C := RX0) (ci := 0) (qc := (RX0, TX0, 9)) (fsF := fl0 G _) ob_6.1 (fun _ => en0 ob_6.2) rfl rfl dX4_staysDry_8 (s0_becomes ob_6 ob_1 h) (gV tbc kM_RX4_65_X0_becomes kI_X0_becomes kS_X0_becomes kN_RX0 kC_X0_becomes) rfl (by decide +kernel) ⟨Nat.le_of_ble_eq_true rfl, Nat.le_of_ble_eq_true rfl⟩ rfl rfl (Nat.le_of_ble_eq_true rfl) ⟨Nat.le_refl 0, Nat.le_refl 0⟩ (fun M h => ?_)
  refine a_iload_n dX4_staysDry_11 3 rfl ?_
  refine a_if_lt (tgt := 26) dX4_staysDry_12 (by decide) (fun c => ?_) (fun c => ?_)
  · have h := h.1 c
    refine a_sub [0, 1, 2, 4] rfl ?_
    exact s4_staysDry_c26 _ _ _ _ h
  · have h := h.2 c
    refine a_aload_n dX4_staysDry_15 0 rfl ?_
    refine a_get2 dX4_staysDry_16 1 (by decide) (tbc _ kF_RX4_16) (fun w h => tbc _ (uW2 w h)) rfl ob_0 rfl ?_
    refine a_iconst (v := 0) dX4_staysDry_19 (by decide) ?_
    refine a_bipush (v := 9) dX4_staysDry_20 (by decide) ?_
    refine a_iload_n dX4_staysDry_22 3 rfl ?_
    refine a_callVv (n := 3) [.int _, .int _, .int _] (C := RX0) (ci := 0) (qc := (RX0, TX0, 9)) (fsF := fl0 G _) ob_6.1 (fun _ => en0 ob_6.2) rfl rfl dX4_staysDry_23 (s0_builds ob_6 h) (gV tbc kM_RX4_126_X0_builds kI_X0_builds kS_X0_builds kN_RX0 kC_X0_builds) rfl (by decide +kernel) ⟨Nat.le_of_ble_eq_true rfl, Nat.le_of_ble_eq_true rfl⟩ rfl rfl (Nat.le_of_ble_eq_true rfl) ⟨Nat.le_refl 0, Nat.le_refl 0⟩ (fun M h => ?_)
    refine a_sub [0, 1, 2, 4] rfl ?_
    exact s4_staysDry_c26 _ _ _ _ h

/-! X4_firstOfTwoKeepers -/
theorem dX4_firstOfTwoKeepers_0 : decode cX4_firstOfTwoKeepers 0 = .ok (.iconst 0, 1) := by decide +kernel
theorem dX4_firstOfTwoKeepers_1 : decode cX4_firstOfTwoKeepers 1 = .ok (.istore_n 3, 1) := by decide +kernel
theorem dX4_firstOfTwoKeepers_2 : decode cX4_firstOfTwoKeepers 2 = .ok (.iload_n 3, 1) := by decide +kernel
theorem dX4_firstOfTwoKeepers_3 : decode cX4_firstOfTwoKeepers 3 = .ok (.bipush 25, 2) := by decide +kernel
theorem dX4_firstOfTwoKeepers_5 : decode cX4_firstOfTwoKeepers 5 = .ok (.if_icmp .ge 76, 3) := by decide +kernel
theorem dX4_firstOfTwoKeepers_8 : decode cX4_firstOfTwoKeepers 8 = .ok (.iload_n 3, 1) := by decide +kernel
theorem dX4_firstOfTwoKeepers_9 : decode cX4_firstOfTwoKeepers 9 = .ok (.iconst 1, 1) := by decide +kernel
theorem dX4_firstOfTwoKeepers_10 : decode cX4_firstOfTwoKeepers 10 = .ok (.iadd, 1) := by decide +kernel
theorem dX4_firstOfTwoKeepers_11 : decode cX4_firstOfTwoKeepers 11 = .ok (.istore 4, 2) := by decide +kernel
theorem dX4_firstOfTwoKeepers_13 : decode cX4_firstOfTwoKeepers 13 = .ok (.iload 4, 2) := by decide +kernel
theorem dX4_firstOfTwoKeepers_15 : decode cX4_firstOfTwoKeepers 15 = .ok (.bipush 25, 2) := by decide +kernel
theorem dX4_firstOfTwoKeepers_17 : decode cX4_firstOfTwoKeepers 17 = .ok (.if_icmp .ge 58, 3) := by decide +kernel
theorem dX4_firstOfTwoKeepers_20 : decode cX4_firstOfTwoKeepers 20 = .ok (.aload_n 0, 1) := by decide +kernel
theorem dX4_firstOfTwoKeepers_21 : decode cX4_firstOfTwoKeepers 21 = .ok (.getfield 10, 3) := by decide +kernel
theorem dX4_firstOfTwoKeepers_24 : decode cX4_firstOfTwoKeepers 24 = .ok (.iload_n 3, 1) := by decide +kernel
theorem dX4_firstOfTwoKeepers_25 : decode cX4_firstOfTwoKeepers 25 = .ok (.invokevirtual 117, 3) := by decide +kernel
theorem dX4_firstOfTwoKeepers_28 : decode cX4_firstOfTwoKeepers 28 = .ok (.ifCond .ge 19, 3) := by decide +kernel
theorem dX4_firstOfTwoKeepers_31 : decode cX4_firstOfTwoKeepers 31 = .ok (.aload_n 0, 1) := by decide +kernel
theorem dX4_firstOfTwoKeepers_32 : decode cX4_firstOfTwoKeepers 32 = .ok (.getfield 10, 3) := by decide +kernel
theorem dX4_firstOfTwoKeepers_35 : decode cX4_firstOfTwoKeepers 35 = .ok (.iload 4, 2) := by decide +kernel
theorem dX4_firstOfTwoKeepers_37 : decode cX4_firstOfTwoKeepers 37 = .ok (.invokevirtual 117, 3) := by decide +kernel
theorem dX4_firstOfTwoKeepers_40 : decode cX4_firstOfTwoKeepers 40 = .ok (.ifCond .ge 7, 3) := by decide +kernel
theorem dX4_firstOfTwoKeepers_43 : decode cX4_firstOfTwoKeepers 43 = .ok (.iconst 1, 1) := by decide +kernel
theorem dX4_firstOfTwoKeepers_44 : decode cX4_firstOfTwoKeepers 44 = .ok (.goto 4, 3) := by decide +kernel
theorem dX4_firstOfTwoKeepers_47 : decode cX4_firstOfTwoKeepers 47 = .ok (.iconst 0, 1) := by decide +kernel
theorem dX4_firstOfTwoKeepers_48 : decode cX4_firstOfTwoKeepers 48 = .ok (.istore 5, 2) := by decide +kernel
theorem dX4_firstOfTwoKeepers_50 : decode cX4_firstOfTwoKeepers 50 = .ok (.iload 5, 2) := by decide +kernel
theorem dX4_firstOfTwoKeepers_52 : decode cX4_firstOfTwoKeepers 52 = .ok (.ifCond .eq 17, 3) := by decide +kernel
theorem dX4_firstOfTwoKeepers_55 : decode cX4_firstOfTwoKeepers 55 = .ok (.aload_n 0, 1) := by decide +kernel
theorem dX4_firstOfTwoKeepers_56 : decode cX4_firstOfTwoKeepers 56 = .ok (.iload_n 1, 1) := by decide +kernel
theorem dX4_firstOfTwoKeepers_57 : decode cX4_firstOfTwoKeepers 57 = .ok (.iload_n 2, 1) := by decide +kernel
theorem dX4_firstOfTwoKeepers_58 : decode cX4_firstOfTwoKeepers 58 = .ok (.iload_n 3, 1) := by decide +kernel
theorem dX4_firstOfTwoKeepers_59 : decode cX4_firstOfTwoKeepers 59 = .ok (.iload 4, 2) := by decide +kernel
theorem dX4_firstOfTwoKeepers_61 : decode cX4_firstOfTwoKeepers 61 = .ok (.invokevirtual 196, 3) := by decide +kernel
theorem dX4_firstOfTwoKeepers_64 : decode cX4_firstOfTwoKeepers 64 = .ok (.ifCond .eq 5, 3) := by decide +kernel
theorem dX4_firstOfTwoKeepers_67 : decode cX4_firstOfTwoKeepers 67 = .ok (.iload_n 3, 1) := by decide +kernel
theorem dX4_firstOfTwoKeepers_68 : decode cX4_firstOfTwoKeepers 68 = .ok (.ireturn, 1) := by decide +kernel
theorem dX4_firstOfTwoKeepers_69 : decode cX4_firstOfTwoKeepers 69 = .ok (.iinc 4 1, 3) := by decide +kernel
theorem dX4_firstOfTwoKeepers_72 : decode cX4_firstOfTwoKeepers 72 = .ok (.goto (-59), 3) := by decide +kernel
theorem dX4_firstOfTwoKeepers_75 : decode cX4_firstOfTwoKeepers 75 = .ok (.iinc 3 1, 3) := by decide +kernel
theorem dX4_firstOfTwoKeepers_78 : decode cX4_firstOfTwoKeepers 78 = .ok (.goto (-76), 3) := by decide +kernel
theorem dX4_firstOfTwoKeepers_81 : decode cX4_firstOfTwoKeepers 81 = .ok (.bipush (-9), 2) := by decide +kernel
theorem dX4_firstOfTwoKeepers_83 : decode cX4_firstOfTwoKeepers 83 = .ok (.ireturn, 1) := by decide +kernel
abbrev A4_firstOfTwoKeepers (G : GG) (Q : Int32 → MM → Prop) := AW G E0 (MZ G (qI Q)) (WY yX4_firstOfTwoKeepers cX4_firstOfTwoKeepers 6 (some .int)) RX4 cX4_firstOfTwoKeepers 6 (some .int) ({ frames := 5, cells := 0, slots := 0, locals := 119 } : Room) 0 0
def D4_firstOfTwoKeepers_c69 (K13 : Int32 → Int32 → Int32 → Int32 → MM → Prop) (K2 : Int32 → Int32 → Int32 → MM → Prop) (Q : Int32 → MM → Prop) (x1 : Int32) (x2 : Int32) (x3 : Int32) (x4 : Int32) (M : MM) : Prop := (fun v9 : Int32 => K13 x1 x2 x3 v9 M) (x4 + (1 : Int32))
def D4_firstOfTwoKeepers_c48 (K13 : Int32 → Int32 → Int32 → Int32 → MM → Prop) (K2 : Int32 → Int32 → Int32 → MM → Prop) (Q : Int32 → MM → Prop) (x1 : Int32) (x2 : Int32) (x3 : Int32) (x4 : Int32) (s0 : Int32) (M : MM) : Prop := ((s0 = 0 → D4_firstOfTwoKeepers_c69 K13 K2 Q x1 x2 x3 x4 M) ∧ (¬ s0 = 0 → D4_staysDry x1 x2 x3 x4 M (fun (r7 : Int32) (M8 : MM) => ((r7 = 0 → D4_firstOfTwoKeepers_c69 K13 K2 Q x1 x2 x3 x4 M8) ∧ (¬ r7 = 0 → Q x3 M8)))))
def D4_firstOfTwoKeepers_c47 (K13 : Int32 → Int32 → Int32 → Int32 → MM → Prop) (K2 : Int32 → Int32 → Int32 → MM → Prop) (Q : Int32 → MM → Prop) (x1 : Int32) (x2 : Int32) (x3 : Int32) (x4 : Int32) (M : MM) : Prop := D4_firstOfTwoKeepers_c48 K13 K2 Q x1 x2 x3 x4 (0 : Int32) M
def D4_firstOfTwoKeepers_c75 (K2 : Int32 → Int32 → Int32 → MM → Prop) (Q : Int32 → MM → Prop) (x1 : Int32) (x2 : Int32) (x3 : Int32) (M : MM) : Prop := (fun v6 : Int32 => K2 x1 x2 v6 M) (x3 + (1 : Int32))
def D4_firstOfTwoKeepers_c13 (K2 : Int32 → Int32 → Int32 → MM → Prop) (Q : Int32 → MM → Prop) : Nat → Int32 → Int32 → Int32 → Int32 → MM → Prop
  | 0, _, _, _, _, _ => False
  | n + 1, x1, x2, x3, x4, M => (((25 : Int32) ≤ x4 → D4_firstOfTwoKeepers_c75 K2 Q x1 x2 x3 M) ∧ (¬ (25 : Int32) ≤ x4 → D0_workIn 1 x3 M (fun (r2 : Int32) (M3 : MM) => ((0 ≤ r2 → D4_firstOfTwoKeepers_c47 (D4_firstOfTwoKeepers_c13 K2 Q n) K2 Q x1 x2 x3 x4 M3) ∧ (¬ 0 ≤ r2 → D0_workIn 1 x4 M3 (fun (r4 : Int32) (M5 : MM) => ((0 ≤ r4 → D4_firstOfTwoKeepers_c47 (D4_firstOfTwoKeepers_c13 K2 Q n) K2 Q x1 x2 x3 x4 M5) ∧ (¬ 0 ≤ r4 → D4_firstOfTwoKeepers_c48 (D4_firstOfTwoKeepers_c13 K2 Q n) K2 Q x1 x2 x3 x4 (1 : Int32) M5))))))))
def D4_firstOfTwoKeepers_c2 (Q : Int32 → MM → Prop) : Nat → Int32 → Int32 → Int32 → MM → Prop
  | 0, _, _, _, _ => False
  | n + 1, x1, x2, x3, M => (((25 : Int32) ≤ x3 → Q (-9 : Int32) M) ∧ (¬ (25 : Int32) ≤ x3 → (fun v1 : Int32 => D4_firstOfTwoKeepers_c13 (D4_firstOfTwoKeepers_c2 Q n) Q FU x1 x2 x3 v1 M) (x3 + (1 : Int32))))
def D4_firstOfTwoKeepers (x1 : Int32) (x2 : Int32) (M : MM) (Q : Int32 → MM → Prop) : Prop := D4_firstOfTwoKeepers_c2 Q FU x1 x2 (0 : Int32) M
set_option maxHeartbeats 4000000 in
set_option maxRecDepth 100000 in
theorem s4_firstOfTwoKeepers_c69 {G : GG} {K13 : Int32 → Int32 → Int32 → Int32 → MM → Prop} {K2 : Int32 → Int32 → Int32 → MM → Prop} {Q : Int32 → MM → Prop} (hK13 : ∀ (x1 : Int32) (x2 : Int32) (x3 : Int32) (x4 : Int32) (M : MM), K13 x1 x2 x3 x4 M → A4_firstOfTwoKeepers G Q 13 [(0, .ref (gA G 0)), (1, .int x1), (2, .int x2), (3, .int x3), (4, .int x4)] [] M) (hK2 : ∀ (x1 : Int32) (x2 : Int32) (x3 : Int32) (M : MM), K2 x1 x2 x3 M → A4_firstOfTwoKeepers G Q 2 [(0, .ref (gA G 0)), (1, .int x1), (2, .int x2), (3, .int x3)] [] M) : ∀ (x1 : Int32) (x2 : Int32) (x3 : Int32) (x4 : Int32) (M : MM), D4_firstOfTwoKeepers_c69 K13 K2 Q x1 x2 x3 x4 M → A4_firstOfTwoKeepers G Q 69 [(0, .ref (gA G 0)), (1, .int x1), (2, .int x2), (3, .int x3), (4, .int x4)] [] M := by
  intro x1 x2 x3 x4 M h
  unfold D4_firstOfTwoKeepers_c69 at h
  refine a_iinc (L' := [(4, .int _), (0, .ref _), (1, .int _), (2, .int _), (3, .int _)]) dX4_firstOfTwoKeepers_69 4 rfl (show _ + Int32.ofInt (1 : Int) = _ + (1 : Int32) from rfl) (by decide) rfl ?_
  refine a_goto (tgt := 13) dX4_firstOfTwoKeepers_72 (by decide) ?_
  refine a_sub [1, 2, 3, 4, 0] rfl ?_
  exact hK13 _ _ _ _ _ h
set_option maxHeartbeats 4000000 in
set_option maxRecDepth 100000 in
theorem s4_firstOfTwoKeepers_c48 {G : GG} {K13 : Int32 → Int32 → Int32 → Int32 → MM → Prop} {K2 : Int32 → Int32 → Int32 → MM → Prop} {Q : Int32 → MM → Prop} (hK13 : ∀ (x1 : Int32) (x2 : Int32) (x3 : Int32) (x4 : Int32) (M : MM), K13 x1 x2 x3 x4 M → A4_firstOfTwoKeepers G Q 13 [(0, .ref (gA G 0)), (1, .int x1), (2, .int x2), (3, .int x3), (4, .int x4)] [] M) (hK2 : ∀ (x1 : Int32) (x2 : Int32) (x3 : Int32) (M : MM), K2 x1 x2 x3 M → A4_firstOfTwoKeepers G Q 2 [(0, .ref (gA G 0)), (1, .int x1), (2, .int x2), (3, .int x3)] [] M) : ∀ (x1 : Int32) (x2 : Int32) (x3 : Int32) (x4 : Int32) (s0 : Int32) (M : MM), D4_firstOfTwoKeepers_c48 K13 K2 Q x1 x2 x3 x4 s0 M → A4_firstOfTwoKeepers G Q 48 [(0, .ref (gA G 0)), (1, .int x1), (2, .int x2), (3, .int x3), (4, .int x4)] [.int s0] M := by
  intro x1 x2 x3 x4 s0 M h
  unfold D4_firstOfTwoKeepers_c48 at h
  refine a_istore (i := 5) (L' := [(5, .int _), (0, .ref _), (1, .int _), (2, .int _), (3, .int _), (4, .int _)]) dX4_firstOfTwoKeepers_48 (by decide) rfl ?_
  refine a_iload dX4_firstOfTwoKeepers_50 0 rfl ?_
  refine a_if_eq (tgt := 69) dX4_firstOfTwoKeepers_52 (by decide) (fun c => ?_) (fun c => ?_)
  · have h := h.1 c
    refine a_sub [1, 2, 3, 4, 5] rfl ?_
    exact s4_firstOfTwoKeepers_c69 hK13 hK2 _ _ _ _ _ h
  · have h := h.2 c
    refine a_aload_n dX4_firstOfTwoKeepers_55 1 rfl ?_
    refine a_iload_n dX4_firstOfTwoKeepers_56 2 rfl ?_
    refine a_iload_n dX4_firstOfTwoKeepers_57 3 rfl ?_
    refine a_iload_n dX4_firstOfTwoKeepers_58 4 rfl ?_
    refine a_iload dX4_firstOfTwoKeepers_59 5 rfl ?_
    refine a_callVi (n := 4) [.int _, .int _, .int _, .int _] (C := RX4) (ci := 2) (qc := (RX4, TX4, 12)) (fsF := fl2 G _) ob_0.1 (fun _ => en2 ob_0.2) rfl rfl dX4_firstOfTwoKeepers_61 (s4_staysDry h) (gV tbc kM_RX4_196_X4_staysDry kI_X4_staysDry kS_X4_staysDry kN_RX4 kC_X4_staysDry) rfl (by decide +kernel) ⟨Nat.le_of_ble_eq_true rfl, Nat.le_of_ble_eq_true rfl⟩ rfl rfl (Nat.le_of_ble_eq_true rfl) ⟨Nat.le_refl 0, Nat.le_refl 0⟩ (fun r M h => ?_)
    refine a_if_eq (tgt := 69) dX4_firstOfTwoKeepers_64 (by decide) (fun c => ?_) (fun c => ?_)
    · have h := h.1 c
      refine a_sub [1, 2, 3, 4, 5] rfl ?_
      exact s4_firstOfTwoKeepers_c69 hK13 hK2 _ _ _ _ _ h
    · have h := h.2 c
      refine a_iload_n dX4_firstOfTwoKeepers_67 4 rfl ?_
      exact a_iret dX4_firstOfTwoKeepers_68 ⟨_, rfl, h⟩
set_option maxHeartbeats 4000000 in
set_option maxRecDepth 100000 in
theorem s4_firstOfTwoKeepers_c47 {G : GG} {K13 : Int32 → Int32 → Int32 → Int32 → MM → Prop} {K2 : Int32 → Int32 → Int32 → MM → Prop} {Q : Int32 → MM → Prop} (hK13 : ∀ (x1 : Int32) (x2 : Int32) (x3 : Int32) (x4 : Int32) (M : MM), K13 x1 x2 x3 x4 M → A4_firstOfTwoKeepers G Q 13 [(0, .ref (gA G 0)), (1, .int x1), (2, .int x2), (3, .int x3), (4, .int x4)] [] M) (hK2 : ∀ (x1 : Int32) (x2 : Int32) (x3 : Int32) (M : MM), K2 x1 x2 x3 M → A4_firstOfTwoKeepers G Q 2 [(0, .ref (gA G 0)), (1, .int x1), (2, .int x2), (3, .int x3)] [] M) : ∀ (x1 : Int32) (x2 : Int32) (x3 : Int32) (x4 : Int32) (M : MM), D4_firstOfTwoKeepers_c47 K13 K2 Q x1 x2 x3 x4 M → A4_firstOfTwoKeepers G Q 47 [(0, .ref (gA G 0)), (1, .int x1), (2, .int x2), (3, .int x3), (4, .int x4)] [] M := by
  intro x1 x2 x3 x4 M h
  unfold D4_firstOfTwoKeepers_c47 at h
  refine a_iconst (v := 0) dX4_firstOfTwoKeepers_47 (by decide) ?_
  refine a_sub [0, 1, 2, 3, 4] rfl ?_
  exact s4_firstOfTwoKeepers_c48 hK13 hK2 _ _ _ _ _ _ h
set_option maxHeartbeats 4000000 in
set_option maxRecDepth 100000 in
theorem s4_firstOfTwoKeepers_c75 {G : GG} {K2 : Int32 → Int32 → Int32 → MM → Prop} {Q : Int32 → MM → Prop} (hK2 : ∀ (x1 : Int32) (x2 : Int32) (x3 : Int32) (M : MM), K2 x1 x2 x3 M → A4_firstOfTwoKeepers G Q 2 [(0, .ref (gA G 0)), (1, .int x1), (2, .int x2), (3, .int x3)] [] M) : ∀ (x1 : Int32) (x2 : Int32) (x3 : Int32) (M : MM), D4_firstOfTwoKeepers_c75 K2 Q x1 x2 x3 M → A4_firstOfTwoKeepers G Q 75 [(0, .ref (gA G 0)), (1, .int x1), (2, .int x2), (3, .int x3)] [] M := by
  intro x1 x2 x3 M h
  unfold D4_firstOfTwoKeepers_c75 at h
  refine a_iinc (L' := [(3, .int _), (0, .ref _), (1, .int _), (2, .int _)]) dX4_firstOfTwoKeepers_75 3 rfl (show _ + Int32.ofInt (1 : Int) = _ + (1 : Int32) from rfl) (by decide) rfl ?_
  refine a_goto (tgt := 2) dX4_firstOfTwoKeepers_78 (by decide) ?_
  refine a_sub [1, 2, 3, 0] rfl ?_
  exact hK2 _ _ _ _ h
set_option maxHeartbeats 4000000 in
set_option maxRecDepth 100000 in
theorem s4_firstOfTwoKeepers_c13 {G : GG} {K2 : Int32 → Int32 → Int32 → MM → Prop} {Q : Int32 → MM → Prop} (hK2 : ∀ (x1 : Int32) (x2 : Int32) (x3 : Int32) (M : MM), K2 x1 x2 x3 M → A4_firstOfTwoKeepers G Q 2 [(0, .ref (gA G 0)), (1, .int x1), (2, .int x2), (3, .int x3)] [] M) : ∀ (n : Nat) (x1 : Int32) (x2 : Int32) (x3 : Int32) (x4 : Int32) (M : MM), D4_firstOfTwoKeepers_c13 K2 Q n x1 x2 x3 x4 M → A4_firstOfTwoKeepers G Q 13 [(0, .ref (gA G 0)), (1, .int x1), (2, .int x2), (3, .int x3), (4, .int x4)] [] M := by
  intro n
  induction n with
  | zero => intro x1 x2 x3 x4 M h; exact h.elim
  | succ n ih =>
    intro x1 x2 x3 x4 M h
    unfold D4_firstOfTwoKeepers_c13 at h
    refine a_iload dX4_firstOfTwoKeepers_13 4 rfl ?_
    refine a_bipush (v := 25) dX4_firstOfTwoKeepers_15 (by decide) ?_
    refine a_icmp_ge (tgt := 75) dX4_firstOfTwoKeepers_17 (by decide) (fun c => ?_) (fun c => ?_)
    · have h := h.1 c
      refine a_sub [0, 1, 2, 3] rfl ?_
      exact s4_firstOfTwoKeepers_c75 hK2 _ _ _ _ h
    · have h := h.2 c
      refine a_aload_n dX4_firstOfTwoKeepers_20 0 rfl ?_
      refine a_get2 dX4_firstOfTwoKeepers_21 0 (by decide) (tbc _ kF_RX4_10) (fun w h => tbc _ (uW2 w h)) rfl ob_0 rfl ?_
      refine a_iload_n dX4_firstOfTwoKeepers_24 3 rfl ?_
      refine a_callVi (n := 1) [.int _] (C := RX0) (ci := 0) (qc := (RX0, TX0, 9)) (fsF := fl0 G _) ob_1.1 (fun _ => en0 ob_1.2) rfl rfl dX4_firstOfTwoKeepers_25 (s0_workIn ob_1 h) (gV tbc kM_RX4_117_X0_workIn kI_X0_workIn kS_X0_workIn kN_RX0 kC_X0_workIn) rfl (by decide +kernel) ⟨Nat.le_of_ble_eq_true rfl, Nat.le_of_ble_eq_true rfl⟩ rfl rfl (Nat.le_of_ble_eq_true rfl) ⟨Nat.le_refl 0, Nat.le_refl 0⟩ (fun r M h => ?_)
      refine a_if_ge (tgt := 47) dX4_firstOfTwoKeepers_28 (by decide) (fun c => ?_) (fun c => ?_)
      · have h := h.1 c
        refine a_sub [0, 1, 2, 3, 4] rfl ?_
        exact s4_firstOfTwoKeepers_c47 ih hK2 _ _ _ _ _ h
      · have h := h.2 c
        refine a_aload_n dX4_firstOfTwoKeepers_31 0 rfl ?_
        refine a_get2 dX4_firstOfTwoKeepers_32 0 (by decide) (tbc _ kF_RX4_10) (fun w h => tbc _ (uW2 w h)) rfl ob_0 rfl ?_
        refine a_iload dX4_firstOfTwoKeepers_35 4 rfl ?_
        refine a_callVi (n := 1) [.int _] (C := RX0) (ci := 0) (qc := (RX0, TX0, 9)) (fsF := fl0 G _) ob_1.1 (fun _ => en0 ob_1.2) rfl rfl dX4_firstOfTwoKeepers_37 (s0_workIn ob_1 h) (gV tbc kM_RX4_117_X0_workIn kI_X0_workIn kS_X0_workIn kN_RX0 kC_X0_workIn) rfl (by decide +kernel) ⟨Nat.le_of_ble_eq_true rfl, Nat.le_of_ble_eq_true rfl⟩ rfl rfl (Nat.le_of_ble_eq_true rfl) ⟨Nat.le_refl 0, Nat.le_refl 0⟩ (fun r M h => ?_)
        refine a_if_ge (tgt := 47) dX4_firstOfTwoKeepers_40 (by decide) (fun c => ?_) (fun c => ?_)
        · have h := h.1 c
          refine a_sub [0, 1, 2, 3, 4] rfl ?_
          exact s4_firstOfTwoKeepers_c47 ih hK2 _ _ _ _ _ h
        · have h := h.2 c
          refine a_iconst (v := 1) dX4_firstOfTwoKeepers_43 (by decide) ?_
          refine a_goto (tgt := 48) dX4_firstOfTwoKeepers_44 (by decide) ?_
          refine a_sub [0, 1, 2, 3, 4] rfl ?_
          exact s4_firstOfTwoKeepers_c48 ih hK2 _ _ _ _ _ _ h
set_option maxHeartbeats 4000000 in
set_option maxRecDepth 100000 in
theorem s4_firstOfTwoKeepers_c2 {G : GG} {Q : Int32 → MM → Prop} : ∀ (n : Nat) (x1 : Int32) (x2 : Int32) (x3 : Int32) (M : MM), D4_firstOfTwoKeepers_c2 Q n x1 x2 x3 M → A4_firstOfTwoKeepers G Q 2 [(0, .ref (gA G 0)), (1, .int x1), (2, .int x2), (3, .int x3)] [] M := by
  intro n
  induction n with
  | zero => intro x1 x2 x3 M h; exact h.elim
  | succ n ih =>
    intro x1 x2 x3 M h
    unfold D4_firstOfTwoKeepers_c2 at h
    refine a_iload_n dX4_firstOfTwoKeepers_2 3 rfl ?_
    refine a_bipush (v := 25) dX4_firstOfTwoKeepers_3 (by decide) ?_
    refine a_icmp_ge (tgt := 81) dX4_firstOfTwoKeepers_5 (by decide) (fun c => ?_) (fun c => ?_)
    · have h := h.1 c
      refine a_bipush (v := -9) dX4_firstOfTwoKeepers_81 (by decide) ?_
      exact a_iret dX4_firstOfTwoKeepers_83 ⟨_, rfl, h⟩
    · have h := h.2 c
      refine a_iload_n dX4_firstOfTwoKeepers_8 3 rfl ?_
      refine a_iconst (v := 1) dX4_firstOfTwoKeepers_9 (by decide) ?_
      refine a_iadd dX4_firstOfTwoKeepers_10 ?_
      refine a_istore (i := 4) (L' := [(4, .int _), (0, .ref _), (1, .int _), (2, .int _), (3, .int _)]) dX4_firstOfTwoKeepers_11 (by decide) rfl ?_
      refine a_sub [1, 2, 3, 4, 0] rfl ?_
      exact s4_firstOfTwoKeepers_c13 ih _ _ _ _ _ _ h
set_option maxHeartbeats 4000000 in
set_option maxRecDepth 100000 in
theorem s4_firstOfTwoKeepers {G : GG} {x1 : Int32} {x2 : Int32} {M : MM} {Q : Int32 → MM → Prop} (h : D4_firstOfTwoKeepers x1 x2 M Q) : CM G yX4_firstOfTwoKeepers (WY yX4_firstOfTwoKeepers cX4_firstOfTwoKeepers 6 (some .int)) 5 119 [.ref (gA G 0), .int x1, .int x2] M (qI Q) := by
  refine CM.of (cc := cX4_firstOfTwoKeepers) (nL := 6) (ret := (some .int)) (own := RX4) (by decide +kernel) rfl rfl (Nat.le_of_ble_eq_true rfl) ?_
  show A4_firstOfTwoKeepers G Q 0 [(0, .ref (gA G 0)), (1, .int x1), (2, .int x2)] [] M
  unfold D4_firstOfTwoKeepers at h
  refine a_iconst (v := 0) dX4_firstOfTwoKeepers_0 (by decide) ?_
  refine a_istore_n (i := 3) (L' := [(3, .int _), (0, .ref _), (1, .int _), (2, .int _)]) dX4_firstOfTwoKeepers_1 rfl (by decide) rfl ?_
  refine a_sub [1, 2, 3, 0] rfl ?_
  exact s4_firstOfTwoKeepers_c2 _ _ _ _ _ h

/-! X4_notStanding -/
theorem dX4_notStanding_0 : decode cX4_notStanding 0 = .ok (.aload_n 0, 1) := by decide +kernel
theorem dX4_notStanding_1 : decode cX4_notStanding 1 = .ok (.getfield 10, 3) := by decide +kernel
theorem dX4_notStanding_4 : decode cX4_notStanding 4 = .ok (.iload_n 1, 1) := by decide +kernel
theorem dX4_notStanding_5 : decode cX4_notStanding 5 = .ok (.invokevirtual 80, 3) := by decide +kernel
theorem dX4_notStanding_8 : decode cX4_notStanding 8 = .ok (.ifCond .ne 5, 3) := by decide +kernel
theorem dX4_notStanding_11 : decode cX4_notStanding 11 = .ok (.iconst (-1), 1) := by decide +kernel
theorem dX4_notStanding_12 : decode cX4_notStanding 12 = .ok (.ireturn, 1) := by decide +kernel
theorem dX4_notStanding_13 : decode cX4_notStanding 13 = .ok (.aload_n 0, 1) := by decide +kernel
theorem dX4_notStanding_14 : decode cX4_notStanding 14 = .ok (.getfield 10, 3) := by decide +kernel
theorem dX4_notStanding_17 : decode cX4_notStanding 17 = .ok (.iload_n 1, 1) := by decide +kernel
theorem dX4_notStanding_18 : decode cX4_notStanding 18 = .ok (.invokevirtual 96, 3) := by decide +kernel
theorem dX4_notStanding_21 : decode cX4_notStanding 21 = .ok (.ifCond .eq 7, 3) := by decide +kernel
theorem dX4_notStanding_24 : decode cX4_notStanding 24 = .ok (.iconst 0, 1) := by decide +kernel
theorem dX4_notStanding_25 : decode cX4_notStanding 25 = .ok (.goto 5, 3) := by decide +kernel
theorem dX4_notStanding_28 : decode cX4_notStanding 28 = .ok (.bipush (-3), 2) := by decide +kernel
theorem dX4_notStanding_30 : decode cX4_notStanding 30 = .ok (.ireturn, 1) := by decide +kernel
abbrev A4_notStanding (G : GG) (Q : Int32 → MM → Prop) := AW G E0 (MZ G (qI Q)) (WY yX4_notStanding cX4_notStanding 2 (some .int)) RX4 cX4_notStanding 2 (some .int) ({ frames := 1, cells := 0, slots := 0, locals := 21 } : Room) 0 0
def D4_notStanding (x1 : Int32) (M : MM) (Q : Int32 → MM → Prop) : Prop := D0_knows 1 x1 M (fun (r1 : Int32) (M2 : MM) => ((r1 ≠ 0 → D0_stands 1 x1 M2 (fun (r3 : Int32) (M4 : MM) => ((r3 = 0 → Q (-3 : Int32) M4) ∧ (¬ r3 = 0 → Q (0 : Int32) M4)))) ∧ (r1 = 0 → Q (-1 : Int32) M2)))
set_option maxHeartbeats 4000000 in
set_option maxRecDepth 100000 in
theorem s4_notStanding {G : GG} {x1 : Int32} {M : MM} {Q : Int32 → MM → Prop} (h : D4_notStanding x1 M Q) : CM G yX4_notStanding (WY yX4_notStanding cX4_notStanding 2 (some .int)) 1 21 [.ref (gA G 0), .int x1] M (qI Q) := by
  refine CM.of (cc := cX4_notStanding) (nL := 2) (ret := (some .int)) (own := RX4) (by decide +kernel) rfl rfl (Nat.le_of_ble_eq_true rfl) ?_
  show A4_notStanding G Q 0 [(0, .ref (gA G 0)), (1, .int x1)] [] M
  unfold D4_notStanding at h
  refine a_aload_n dX4_notStanding_0 0 rfl ?_
  refine a_get2 dX4_notStanding_1 0 (by decide) (tbc _ kF_RX4_10) (fun w h => tbc _ (uW2 w h)) rfl ob_0 rfl ?_
  refine a_iload_n dX4_notStanding_4 1 rfl ?_
  refine a_callVi (n := 1) [.int _] (C := RX0) (ci := 0) (qc := (RX0, TX0, 9)) (fsF := fl0 G _) ob_1.1 (fun _ => en0 ob_1.2) rfl rfl dX4_notStanding_5 (s0_knows ob_1 h) (gV tbc kM_RX4_80_X0_knows kI_X0_knows kS_X0_knows kN_RX0 kC_X0_knows) rfl (by decide +kernel) ⟨Nat.le_of_ble_eq_true rfl, Nat.le_of_ble_eq_true rfl⟩ rfl rfl (Nat.le_of_ble_eq_true rfl) ⟨Nat.le_refl 0, Nat.le_refl 0⟩ (fun r M h => ?_)
  refine a_if_ne (tgt := 13) dX4_notStanding_8 (by decide) (fun c => ?_) (fun c => ?_)
  · have h := h.1 c
    refine a_aload_n dX4_notStanding_13 0 rfl ?_
    refine a_get2 dX4_notStanding_14 0 (by decide) (tbc _ kF_RX4_10) (fun w h => tbc _ (uW2 w h)) rfl ob_0 rfl ?_
    refine a_iload_n dX4_notStanding_17 1 rfl ?_
    refine a_callVi (n := 1) [.int _] (C := RX0) (ci := 0) (qc := (RX0, TX0, 9)) (fsF := fl0 G _) ob_1.1 (fun _ => en0 ob_1.2) rfl rfl dX4_notStanding_18 (s0_stands ob_1 h) (gV tbc kM_RX4_96_X0_stands kI_X0_stands kS_X0_stands kN_RX0 kC_X0_stands) rfl (by decide +kernel) ⟨Nat.le_of_ble_eq_true rfl, Nat.le_of_ble_eq_true rfl⟩ rfl rfl (Nat.le_of_ble_eq_true rfl) ⟨Nat.le_refl 0, Nat.le_refl 0⟩ (fun r M h => ?_)
    refine a_if_eq (tgt := 28) dX4_notStanding_21 (by decide) (fun c => ?_) (fun c => ?_)
    · have h := h.1 c
      refine a_bipush (v := -3) dX4_notStanding_28 (by decide) ?_
      exact a_iret dX4_notStanding_30 ⟨_, rfl, h⟩
    · have h := h.2 c
      refine a_iconst (v := 0) dX4_notStanding_24 (by decide) ?_
      refine a_goto (tgt := 30) dX4_notStanding_25 (by decide) ?_
      exact a_iret dX4_notStanding_30 ⟨_, rfl, h⟩
  · have h := h.2 c
    refine a_iconst (v := -1) dX4_notStanding_11 (by decide) ?_
    exact a_iret dX4_notStanding_12 ⟨_, rfl, h⟩

/-! X4_remembers -/
theorem dX4_remembers_0 : decode cX4_remembers 0 = .ok (.aload_n 0, 1) := by decide +kernel
theorem dX4_remembers_1 : decode cX4_remembers 1 = .ok (.aload_n 0, 1) := by decide +kernel
theorem dX4_remembers_2 : decode cX4_remembers 2 = .ok (.getfield 161, 3) := by decide +kernel
theorem dX4_remembers_5 : decode cX4_remembers 5 = .ok (.invokevirtual 164, 3) := by decide +kernel
theorem dX4_remembers_8 : decode cX4_remembers 8 = .ok (.astore_n 1, 1) := by decide +kernel
theorem dX4_remembers_9 : decode cX4_remembers 9 = .ok (.aload_n 1, 1) := by decide +kernel
theorem dX4_remembers_10 : decode cX4_remembers 10 = .ok (.aload_n 0, 1) := by decide +kernel
theorem dX4_remembers_11 : decode cX4_remembers 11 = .ok (.getfield 10, 3) := by decide +kernel
theorem dX4_remembers_14 : decode cX4_remembers 14 = .ok (.invokevirtual 65, 3) := by decide +kernel
theorem dX4_remembers_17 : decode cX4_remembers 17 = .ok (.aload_n 0, 1) := by decide +kernel
theorem dX4_remembers_18 : decode cX4_remembers 18 = .ok (.aload_n 0, 1) := by decide +kernel
theorem dX4_remembers_19 : decode cX4_remembers 19 = .ok (.getfield 161, 3) := by decide +kernel
theorem dX4_remembers_22 : decode cX4_remembers 22 = .ok (.iconst 1, 1) := by decide +kernel
theorem dX4_remembers_23 : decode cX4_remembers 23 = .ok (.iadd, 1) := by decide +kernel
theorem dX4_remembers_24 : decode cX4_remembers 24 = .ok (.bipush 8, 2) := by decide +kernel
theorem dX4_remembers_26 : decode cX4_remembers 26 = .ok (.irem, 1) := by decide +kernel
theorem dX4_remembers_27 : decode cX4_remembers 27 = .ok (.putfield 161, 3) := by decide +kernel
theorem dX4_remembers_30 : decode cX4_remembers 30 = .ok (.aload_n 0, 1) := by decide +kernel
theorem dX4_remembers_31 : decode cX4_remembers 31 = .ok (.bipush 8, 2) := by decide +kernel
theorem dX4_remembers_33 : decode cX4_remembers 33 = .ok (.aload_n 0, 1) := by decide +kernel
theorem dX4_remembers_34 : decode cX4_remembers 34 = .ok (.getfield 76, 3) := by decide +kernel
theorem dX4_remembers_37 : decode cX4_remembers 37 = .ok (.iconst 1, 1) := by decide +kernel
theorem dX4_remembers_38 : decode cX4_remembers 38 = .ok (.iadd, 1) := by decide +kernel
theorem dX4_remembers_39 : decode cX4_remembers 39 = .ok (.invokestatic 302, 3) := by decide +kernel
theorem dX4_remembers_42 : decode cX4_remembers 42 = .ok (.putfield 76, 3) := by decide +kernel
theorem dX4_remembers_45 : decode cX4_remembers 45 = .ok (.return_, 1) := by decide +kernel
abbrev A4_remembers (G : GG) (Q : MM → Prop) := AW G E0 (MZ G (qV Q)) (WY yX4_remembers cX4_remembers 2 none) RX4 cX4_remembers 2 none ({ frames := 1, cells := 0, slots := 0, locals := 22 } : Room) 0 0
def D4_remembers (M : MM) (Q : MM → Prop) : Prop := D4_earlierAt (M 0 10) M (fun (r1 : Nat) (M2 : MM) => ob r1 0 ∧ D0_becomes r1 1 M2 (fun (M4 : MM) => (fun M5 : MM => (fun M6 : MM => Q M6) (up M5 0 9 (if ((M5 0 9) + (1 : Int32)) < (8 : Int32) then ((M5 0 9) + (1 : Int32)) else (8 : Int32)))) (up M4 0 10 (((M4 0 10) + (1 : Int32)) - ((M4 0 10) + (1 : Int32)) / (8 : Int32) * (8 : Int32)))))
set_option maxHeartbeats 4000000 in
set_option maxRecDepth 100000 in
theorem s4_remembers {G : GG} {M : MM} {Q : MM → Prop} (h : D4_remembers M Q) : CM G yX4_remembers (WY yX4_remembers cX4_remembers 2 none) 1 22 [.ref (gA G 0)] M (qV Q) := by
  refine CM.of (cc := cX4_remembers) (nL := 2) (ret := none) (own := RX4) (by decide +kernel) rfl rfl (Nat.le_of_ble_eq_true rfl) ?_
  show A4_remembers G Q 0 [(0, .ref (gA G 0))] [] M
  unfold D4_remembers at h
  refine a_aload_n dX4_remembers_0 0 rfl ?_
  refine a_aload_n dX4_remembers_1 0 rfl ?_
  refine a_get2 dX4_remembers_2 10 (by decide) (tbc _ kF_RX4_161) (fun w h => tbc _ (uW2 w h)) rfl ob_0 rfl ?_
  refine a_callVr (n := 1) [.int _] (C := RX4) (ci := 2) (qc := (RX4, TX4, 12)) (fsF := fl2 G _) ob_0.1 (fun _ => en2 ob_0.2) rfl rfl dX4_remembers_5 (s4_earlierAt h) (gV tbc kM_RX4_164_X4_earlierAt kI_X4_earlierAt kS_X4_earlierAt kN_RX4 kC_X4_earlierAt) rfl (by decide +kernel) ⟨Nat.le_of_ble_eq_true rfl, Nat.le_of_ble_eq_true rfl⟩ rfl rfl (Nat.le_of_ble_eq_true rfl) ⟨Nat.le_refl 0, Nat.le_refl 0⟩ (fun r M h => ?_)
  have hy5 := h.1
  have h := h.2
  refine a_astore_n (i := 1) (L' := [(1, .ref _), (0, .ref _)]) dX4_remembers_8 rfl (by decide) rfl ?_
  refine a_aload_n dX4_remembers_9 0 rfl ?_
  refine a_aload_n dX4_remembers_10 1 rfl ?_
  refine a_get2 dX4_remembers_11 0 (by decide) (tbc _ kF_RX4_10) (fun w h => tbc _ (uW2 w h)) rfl ob_0 rfl ?_
  refine a_callVv (n := 1) [.ref _] (C := RX0) (ci := 0) (qc := (RX0, TX0, 9)) (fsF := fl0 G _) hy5.1 (fun _ => en0 hy5.2) rfl rfl dX4_remembers_14 (s0_becomes hy5 ob_1 h) (gV tbc kM_RX4_65_X0_becomes kI_X0_becomes kS_X0_becomes kN_RX0 kC_X0_becomes) rfl (by decide +kernel) ⟨Nat.le_of_ble_eq_true rfl, Nat.le_of_ble_eq_true rfl⟩ rfl rfl (Nat.le_of_ble_eq_true rfl) ⟨Nat.le_refl 0, Nat.le_refl 0⟩ (fun M h => ?_)
  refine a_aload_n dX4_remembers_17 1 rfl ?_
  refine a_aload_n dX4_remembers_18 1 rfl ?_
  refine a_get2 dX4_remembers_19 10 (by decide) (tbc _ kF_RX4_161) (fun w h => tbc _ (uW2 w h)) rfl ob_0 rfl ?_
  refine a_iconst (v := 1) dX4_remembers_22 (by decide) ?_
  refine a_iadd dX4_remembers_23 ?_
  refine a_bipush (v := 8) dX4_remembers_24 (by decide) ?_
  refine a_irem dX4_remembers_26 (by decide) ?_
  refine a_put2 dX4_remembers_27 10 (by decide) (tbc _ kF_RX4_161) (fun w h => tbc _ (uW2 w h)) rfl rfl rfl rfl ob_0 fs2_10 ?_
  refine a_aload_n dX4_remembers_30 1 rfl ?_
  refine a_bipush (v := 8) dX4_remembers_31 (by decide) ?_
  refine a_aload_n dX4_remembers_33 1 rfl ?_
  refine a_get2 dX4_remembers_34 9 (by decide) (tbc _ kF_RX4_76) (fun w h => tbc _ (uW2 w h)) rfl ob_0 rfl ?_
  refine a_iconst (v := 1) dX4_remembers_37 (by decide) ?_
  refine a_iadd dX4_remembers_38 ?_
  refine a_mmin dX4_remembers_39 (tbc _ kM_RX4_302_Lib_Math_min_name) (tbc _ kT_Lib_Math_min_name) (tbc _ kN_Math) (tbc _ kC_Lib_Math_min_name) (Nat.le_of_ble_eq_true rfl) (Nat.le_of_ble_eq_true rfl) (Nat.le_refl 0) (Nat.le_refl 0) ?_
  refine a_put2 dX4_remembers_42 9 (by decide) (tbc _ kF_RX4_76) (fun w h => tbc _ (uW2 w h)) rfl rfl rfl rfl ob_0 fs2_9 ?_
  exact a_vret dX4_remembers_45 ⟨rfl, h⟩
