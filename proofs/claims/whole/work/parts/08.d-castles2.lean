/-! X4_fixes -/
theorem dX4_fixes_0 : decode cX4_fixes 0 = .ok (.aload_n 0, 1) := by decide +kernel
theorem dX4_fixes_1 : decode cX4_fixes 1 = .ok (.iload_n 1, 1) := by decide +kernel
theorem dX4_fixes_2 : decode cX4_fixes 2 = .ok (.invokevirtual 130, 3) := by decide +kernel
theorem dX4_fixes_5 : decode cX4_fixes 5 = .ok (.istore_n 2, 1) := by decide +kernel
theorem dX4_fixes_6 : decode cX4_fixes 6 = .ok (.iload_n 2, 1) := by decide +kernel
theorem dX4_fixes_7 : decode cX4_fixes 7 = .ok (.ifCond .eq 9, 3) := by decide +kernel
theorem dX4_fixes_10 : decode cX4_fixes 10 = .ok (.aload_n 0, 1) := by decide +kernel
theorem dX4_fixes_11 : decode cX4_fixes 11 = .ok (.iload_n 2, 1) := by decide +kernel
theorem dX4_fixes_12 : decode cX4_fixes 12 = .ok (.invokevirtual 43, 3) := by decide +kernel
theorem dX4_fixes_15 : decode cX4_fixes 15 = .ok (.ireturn, 1) := by decide +kernel
theorem dX4_fixes_16 : decode cX4_fixes 16 = .ok (.aload_n 0, 1) := by decide +kernel
theorem dX4_fixes_17 : decode cX4_fixes 17 = .ok (.invokevirtual 133, 3) := by decide +kernel
theorem dX4_fixes_20 : decode cX4_fixes 20 = .ok (.aload_n 0, 1) := by decide +kernel
theorem dX4_fixes_21 : decode cX4_fixes 21 = .ok (.getfield 10, 3) := by decide +kernel
theorem dX4_fixes_24 : decode cX4_fixes 24 = .ok (.iload_n 1, 1) := by decide +kernel
theorem dX4_fixes_25 : decode cX4_fixes 25 = .ok (.invokevirtual 93, 3) := by decide +kernel
theorem dX4_fixes_28 : decode cX4_fixes 28 = .ok (.istore_n 3, 1) := by decide +kernel
theorem dX4_fixes_29 : decode cX4_fixes 29 = .ok (.aload_n 0, 1) := by decide +kernel
theorem dX4_fixes_30 : decode cX4_fixes 30 = .ok (.getfield 10, 3) := by decide +kernel
theorem dX4_fixes_33 : decode cX4_fixes 33 = .ok (.iload_n 1, 1) := by decide +kernel
theorem dX4_fixes_34 : decode cX4_fixes 34 = .ok (.iconst 0, 1) := by decide +kernel
theorem dX4_fixes_35 : decode cX4_fixes 35 = .ok (.invokevirtual 142, 3) := by decide +kernel
theorem dX4_fixes_38 : decode cX4_fixes 38 = .ok (.iload_n 3, 1) := by decide +kernel
theorem dX4_fixes_39 : decode cX4_fixes 39 = .ok (.ireturn, 1) := by decide +kernel
abbrev A4_fixes (G : GG) (Q : Int32 → MM → Prop) := AW G E0 (MZ G (qI Q)) (WY yX4_fixes cX4_fixes 4 (some .int)) RX4 cX4_fixes 4 (some .int) ({ frames := 2, cells := 0, slots := 0, locals := 43 } : Room) 0 0
def D4_fixes (x1 : Int32) (M : MM) (Q : Int32 → MM → Prop) : Prop := D4_notStanding x1 M (fun (r1 : Int32) (M2 : MM) => ((r1 = 0 → D4_remembers M2 (fun (M4 : MM) => D0_wornOf 1 x1 M4 (fun (r5 : Int32) (M6 : MM) => D0_wears 1 x1 (0 : Int32) M6 (fun (M8 : MM) => Q r5 M8)))) ∧ (¬ r1 = 0 → D4_refused r1 M2 (fun (r9 : Int32) (M10 : MM) => Q r9 M10))))
set_option maxHeartbeats 4000000 in
set_option maxRecDepth 100000 in
theorem s4_fixes {G : GG} {x1 : Int32} {M : MM} {Q : Int32 → MM → Prop} (h : D4_fixes x1 M Q) : CM G yX4_fixes (WY yX4_fixes cX4_fixes 4 (some .int)) 2 43 [.ref (gA G 0), .int x1] M (qI Q) := by
  refine CM.of (cc := cX4_fixes) (nL := 4) (ret := (some .int)) (own := RX4) (by decide +kernel) rfl rfl (Nat.le_of_ble_eq_true rfl) ?_
  show A4_fixes G Q 0 [(0, .ref (gA G 0)), (1, .int x1)] [] M
  unfold D4_fixes at h
  refine a_aload_n dX4_fixes_0 0 rfl ?_
  refine a_iload_n dX4_fixes_1 1 rfl ?_
  refine a_callVi (n := 1) [.int _] (C := RX4) (ci := 2) (qc := (RX4, TX4, 12)) (fsF := fl2 G _) ob_0.1 (fun _ => en2 ob_0.2) rfl rfl dX4_fixes_2 (s4_notStanding h) (gV tbc kM_RX4_130_X4_notStanding kI_X4_notStanding kS_X4_notStanding kN_RX4 kC_X4_notStanding) rfl (by decide +kernel) ⟨Nat.le_of_ble_eq_true rfl, Nat.le_of_ble_eq_true rfl⟩ rfl rfl (Nat.le_of_ble_eq_true rfl) ⟨Nat.le_refl 0, Nat.le_refl 0⟩ (fun r M h => ?_)
  refine a_istore_n (i := 2) (L' := [(2, .int _), (0, .ref _), (1, .int _)]) dX4_fixes_5 rfl (by decide) rfl ?_
  refine a_iload_n dX4_fixes_6 0 rfl ?_
  refine a_if_eq (tgt := 16) dX4_fixes_7 (by decide) (fun c => ?_) (fun c => ?_)
  · have h := h.1 c
    refine a_aload_n dX4_fixes_16 1 rfl ?_
    refine a_callVv (n := 0) [] (C := RX4) (ci := 2) (qc := (RX4, TX4, 12)) (fsF := fl2 G _) ob_0.1 (fun _ => en2 ob_0.2) rfl rfl dX4_fixes_17 (s4_remembers h) (gV tbc kM_RX4_133_X4_remembers kI_X4_remembers kS_X4_remembers kN_RX4 kC_X4_remembers) rfl (by decide +kernel) ⟨Nat.le_of_ble_eq_true rfl, Nat.le_of_ble_eq_true rfl⟩ rfl rfl (Nat.le_of_ble_eq_true rfl) ⟨Nat.le_refl 0, Nat.le_refl 0⟩ (fun M h => ?_)
    refine a_aload_n dX4_fixes_20 1 rfl ?_
    refine a_get2 dX4_fixes_21 0 (by decide) (tbc _ kF_RX4_10) (fun w h => tbc _ (uW2 w h)) rfl ob_0 rfl ?_
    refine a_iload_n dX4_fixes_24 2 rfl ?_
    refine a_callVi (n := 1) [.int _] (C := RX0) (ci := 0) (qc := (RX0, TX0, 9)) (fsF := fl0 G _) ob_1.1 (fun _ => en0 ob_1.2) rfl rfl dX4_fixes_25 (s0_wornOf ob_1 h) (gV tbc kM_RX4_93_X0_wornOf kI_X0_wornOf kS_X0_wornOf kN_RX0 kC_X0_wornOf) rfl (by decide +kernel) ⟨Nat.le_of_ble_eq_true rfl, Nat.le_of_ble_eq_true rfl⟩ rfl rfl (Nat.le_of_ble_eq_true rfl) ⟨Nat.le_refl 0, Nat.le_refl 0⟩ (fun r M h => ?_)
    refine a_istore_n (i := 3) (L' := [(3, .int _), (2, .int _), (0, .ref _), (1, .int _)]) dX4_fixes_28 rfl (by decide) rfl ?_
    refine a_aload_n dX4_fixes_29 2 rfl ?_
    refine a_get2 dX4_fixes_30 0 (by decide) (tbc _ kF_RX4_10) (fun w h => tbc _ (uW2 w h)) rfl ob_0 rfl ?_
    refine a_iload_n dX4_fixes_33 3 rfl ?_
    refine a_iconst (v := 0) dX4_fixes_34 (by decide) ?_
    refine a_callVv (n := 2) [.int _, .int _] (C := RX0) (ci := 0) (qc := (RX0, TX0, 9)) (fsF := fl0 G _) ob_1.1 (fun _ => en0 ob_1.2) rfl rfl dX4_fixes_35 (s0_wears ob_1 h) (gV tbc kM_RX4_142_X0_wears kI_X0_wears kS_X0_wears kN_RX0 kC_X0_wears) rfl (by decide +kernel) ⟨Nat.le_of_ble_eq_true rfl, Nat.le_of_ble_eq_true rfl⟩ rfl rfl (Nat.le_of_ble_eq_true rfl) ⟨Nat.le_refl 0, Nat.le_refl 0⟩ (fun M h => ?_)
    refine a_iload_n dX4_fixes_38 0 rfl ?_
    exact a_iret dX4_fixes_39 ⟨_, rfl, h⟩
  · have h := h.2 c
    refine a_aload_n dX4_fixes_10 1 rfl ?_
    refine a_iload_n dX4_fixes_11 0 rfl ?_
    refine a_callVi (n := 1) [.int _] (C := RX4) (ci := 2) (qc := (RX4, TX4, 12)) (fsF := fl2 G _) ob_0.1 (fun _ => en2 ob_0.2) rfl rfl dX4_fixes_12 (s4_refused h) (gV tbc kM_RX4_43_X4_refused kI_X4_refused kS_X4_refused kN_RX4 kC_X4_refused) rfl (by decide +kernel) ⟨Nat.le_of_ble_eq_true rfl, Nat.le_of_ble_eq_true rfl⟩ rfl rfl (Nat.le_of_ble_eq_true rfl) ⟨Nat.le_refl 0, Nat.le_refl 0⟩ (fun r M h => ?_)
    exact a_iret dX4_fixes_15 ⟨_, rfl, h⟩

/-! X4_floods -/
theorem dX4_floods_0 : decode cX4_floods 0 = .ok (.iload_n 1, 1) := by decide +kernel
theorem dX4_floods_1 : decode cX4_floods 1 = .ok (.invokestatic 114, 3) := by decide +kernel
theorem dX4_floods_4 : decode cX4_floods 4 = .ok (.ifCond .ne 9, 3) := by decide +kernel
theorem dX4_floods_7 : decode cX4_floods 7 = .ok (.aload_n 0, 1) := by decide +kernel
theorem dX4_floods_8 : decode cX4_floods 8 = .ok (.iconst (-1), 1) := by decide +kernel
theorem dX4_floods_9 : decode cX4_floods 9 = .ok (.invokevirtual 43, 3) := by decide +kernel
theorem dX4_floods_12 : decode cX4_floods 12 = .ok (.ireturn, 1) := by decide +kernel
theorem dX4_floods_13 : decode cX4_floods 13 = .ok (.aload_n 0, 1) := by decide +kernel
theorem dX4_floods_14 : decode cX4_floods 14 = .ok (.getfield 16, 3) := by decide +kernel
theorem dX4_floods_17 : decode cX4_floods 17 = .ok (.aload_n 0, 1) := by decide +kernel
theorem dX4_floods_18 : decode cX4_floods 18 = .ok (.getfield 10, 3) := by decide +kernel
theorem dX4_floods_21 : decode cX4_floods 21 = .ok (.invokevirtual 65, 3) := by decide +kernel
theorem dX4_floods_24 : decode cX4_floods 24 = .ok (.iconst 0, 1) := by decide +kernel
theorem dX4_floods_25 : decode cX4_floods 25 = .ok (.istore_n 2, 1) := by decide +kernel
theorem dX4_floods_26 : decode cX4_floods 26 = .ok (.iload_n 2, 1) := by decide +kernel
theorem dX4_floods_27 : decode cX4_floods 27 = .ok (.bipush 60, 2) := by decide +kernel
theorem dX4_floods_29 : decode cX4_floods 29 = .ok (.if_icmp .gt 33, 3) := by decide +kernel
theorem dX4_floods_32 : decode cX4_floods 32 = .ok (.aload_n 0, 1) := by decide +kernel
theorem dX4_floods_33 : decode cX4_floods 33 = .ok (.getfield 16, 3) := by decide +kernel
theorem dX4_floods_36 : decode cX4_floods 36 = .ok (.invokevirtual 180, 3) := by decide +kernel
theorem dX4_floods_39 : decode cX4_floods 39 = .ok (.iload_n 1, 1) := by decide +kernel
theorem dX4_floods_40 : decode cX4_floods 40 = .ok (.invokestatic 186, 3) := by decide +kernel
theorem dX4_floods_43 : decode cX4_floods 43 = .ok (.ifCond .eq 5, 3) := by decide +kernel
theorem dX4_floods_46 : decode cX4_floods 46 = .ok (.iload_n 2, 1) := by decide +kernel
theorem dX4_floods_47 : decode cX4_floods 47 = .ok (.ireturn, 1) := by decide +kernel
theorem dX4_floods_48 : decode cX4_floods 48 = .ok (.aload_n 0, 1) := by decide +kernel
theorem dX4_floods_49 : decode cX4_floods 49 = .ok (.getfield 16, 3) := by decide +kernel
theorem dX4_floods_52 : decode cX4_floods 52 = .ok (.iconst 1, 1) := by decide +kernel
theorem dX4_floods_53 : decode cX4_floods 53 = .ok (.invokevirtual 155, 3) := by decide +kernel
theorem dX4_floods_56 : decode cX4_floods 56 = .ok (.iinc 2 1, 3) := by decide +kernel
theorem dX4_floods_59 : decode cX4_floods 59 = .ok (.goto (-33), 3) := by decide +kernel
theorem dX4_floods_62 : decode cX4_floods 62 = .ok (.bipush (-9), 2) := by decide +kernel
theorem dX4_floods_64 : decode cX4_floods 64 = .ok (.ireturn, 1) := by decide +kernel
abbrev A4_floods (G : GG) (Q : Int32 → MM → Prop) := AW G E0 (MZ G (qI Q)) (WY yX4_floods cX4_floods 3 (some .int)) RX4 cX4_floods 3 (some .int) ({ frames := 4, cells := 0, slots := 0, locals := 94 } : Room) 0 0
def D4_floods_c26 (Q : Int32 → MM → Prop) : Nat → Int32 → Int32 → MM → Prop
  | 0, _, _, _ => False
  | n + 1, x1, x2, M => (((60 : Int32) < x2 → Q (-9 : Int32) M) ∧ (¬ (60 : Int32) < x2 → D0_wetNow 6 M (fun (r7 : Int32) (M8 : MM) => D3_has r7 x1 M8 (fun (r9 : Int32) (M10 : MM) => ((r9 = 0 → D0_goesOn 6 (1 : Int32) M10 (fun (M12 : MM) => (fun v13 : Int32 => D4_floods_c26 Q n x1 v13 M12) (x2 + (1 : Int32)))) ∧ (¬ r9 = 0 → Q x2 M10))))))
def D4_floods (x1 : Int32) (M : MM) (Q : Int32 → MM → Prop) : Prop := D4_isCell x1 M (fun (r1 : Int32) (M2 : MM) => ((r1 ≠ 0 → D0_becomes 6 1 M2 (fun (M4 : MM) => D4_floods_c26 Q FU x1 (0 : Int32) M4)) ∧ (r1 = 0 → D4_refused (-1 : Int32) M2 (fun (r5 : Int32) (M6 : MM) => Q r5 M6))))
set_option maxHeartbeats 4000000 in
set_option maxRecDepth 100000 in
theorem s4_floods_c26 {G : GG} {Q : Int32 → MM → Prop} : ∀ (n : Nat) (x1 : Int32) (x2 : Int32) (M : MM), D4_floods_c26 Q n x1 x2 M → A4_floods G Q 26 [(0, .ref (gA G 0)), (1, .int x1), (2, .int x2)] [] M := by
  intro n
  induction n with
  | zero => intro x1 x2 M h; exact h.elim
  | succ n ih =>
    intro x1 x2 M h
    unfold D4_floods_c26 at h
    refine a_iload_n dX4_floods_26 2 rfl ?_
    refine a_bipush (v := 60) dX4_floods_27 (by decide) ?_
    refine a_icmp_gt (tgt := 62) dX4_floods_29 (by decide) (fun c => ?_) (fun c => ?_)
    · have h := h.1 c
      refine a_bipush (v := -9) dX4_floods_62 (by decide) ?_
      exact a_iret dX4_floods_64 ⟨_, rfl, h⟩
    · have h := h.2 c
      refine a_aload_n dX4_floods_32 0 rfl ?_
      refine a_get2 dX4_floods_33 1 (by decide) (tbc _ kF_RX4_16) (fun w h => tbc _ (uW2 w h)) rfl ob_0 rfl ?_
      refine a_callVi (n := 0) [] (C := RX0) (ci := 0) (qc := (RX0, TX0, 9)) (fsF := fl0 G _) ob_6.1 (fun _ => en0 ob_6.2) rfl rfl dX4_floods_36 (s0_wetNow ob_6 h) (gV tbc kM_RX4_180_X0_wetNow kI_X0_wetNow kS_X0_wetNow kN_RX0 kC_X0_wetNow) rfl (by decide +kernel) ⟨Nat.le_of_ble_eq_true rfl, Nat.le_of_ble_eq_true rfl⟩ rfl rfl (Nat.le_of_ble_eq_true rfl) ⟨Nat.le_refl 0, Nat.le_refl 0⟩ (fun r M h => ?_)
      refine a_iload_n dX4_floods_39 1 rfl ?_
      refine a_callSi (n := 2) [.int _, .int _] dX4_floods_40 (s3_has h) (gS tbc kM_RX4_186_X3_has kT_X3_has kN_RX3 kC_X3_has) rfl (by decide +kernel) ⟨Nat.le_of_ble_eq_true rfl, Nat.le_of_ble_eq_true rfl⟩ rfl rfl (Nat.le_of_ble_eq_true rfl) ⟨Nat.le_refl 0, Nat.le_refl 0⟩ (fun r M h => ?_)
      refine a_if_eq (tgt := 48) dX4_floods_43 (by decide) (fun c => ?_) (fun c => ?_)
      · have h := h.1 c
        refine a_aload_n dX4_floods_48 0 rfl ?_
        refine a_get2 dX4_floods_49 1 (by decide) (tbc _ kF_RX4_16) (fun w h => tbc _ (uW2 w h)) rfl ob_0 rfl ?_
        refine a_iconst (v := 1) dX4_floods_52 (by decide) ?_
        refine a_callVv (n := 1) [.int _] (C := RX0) (ci := 0) (qc := (RX0, TX0, 9)) (fsF := fl0 G _) ob_6.1 (fun _ => en0 ob_6.2) rfl rfl dX4_floods_53 (s0_goesOn ob_6 h) (gV tbc kM_RX4_155_X0_goesOn kI_X0_goesOn kS_X0_goesOn kN_RX0 kC_X0_goesOn) rfl (by decide +kernel) ⟨Nat.le_of_ble_eq_true rfl, Nat.le_of_ble_eq_true rfl⟩ rfl rfl (Nat.le_of_ble_eq_true rfl) ⟨Nat.le_refl 0, Nat.le_refl 0⟩ (fun M h => ?_)
        refine a_iinc (L' := [(2, .int _), (0, .ref _), (1, .int _)]) dX4_floods_56 2 rfl (show _ + Int32.ofInt (1 : Int) = _ + (1 : Int32) from rfl) (by decide) rfl ?_
        refine a_goto (tgt := 26) dX4_floods_59 (by decide) ?_
        refine a_sub [1, 2, 0] rfl ?_
        exact ih _ _ _ h
      · have h := h.2 c
        refine a_iload_n dX4_floods_46 2 rfl ?_
        exact a_iret dX4_floods_47 ⟨_, rfl, h⟩
set_option maxHeartbeats 4000000 in
set_option maxRecDepth 100000 in
theorem s4_floods {G : GG} {x1 : Int32} {M : MM} {Q : Int32 → MM → Prop} (h : D4_floods x1 M Q) : CM G yX4_floods (WY yX4_floods cX4_floods 3 (some .int)) 4 94 [.ref (gA G 0), .int x1] M (qI Q) := by
  refine CM.of (cc := cX4_floods) (nL := 3) (ret := (some .int)) (own := RX4) (by decide +kernel) rfl rfl (Nat.le_of_ble_eq_true rfl) ?_
  show A4_floods G Q 0 [(0, .ref (gA G 0)), (1, .int x1)] [] M
  unfold D4_floods at h
  refine a_iload_n dX4_floods_0 1 rfl ?_
  refine a_callSi (n := 1) [.int _] dX4_floods_1 (s4_isCell h) (gS tbc kM_RX4_114_X4_isCell kT_X4_isCell kN_RX4 kC_X4_isCell) rfl (by decide +kernel) ⟨Nat.le_of_ble_eq_true rfl, Nat.le_of_ble_eq_true rfl⟩ rfl rfl (Nat.le_of_ble_eq_true rfl) ⟨Nat.le_refl 0, Nat.le_refl 0⟩ (fun r M h => ?_)
  refine a_if_ne (tgt := 13) dX4_floods_4 (by decide) (fun c => ?_) (fun c => ?_)
  · have h := h.1 c
    refine a_aload_n dX4_floods_13 0 rfl ?_
    refine a_get2 dX4_floods_14 1 (by decide) (tbc _ kF_RX4_16) (fun w h => tbc _ (uW2 w h)) rfl ob_0 rfl ?_
    refine a_aload_n dX4_floods_17 0 rfl ?_
    refine a_get2 dX4_floods_18 0 (by decide) (tbc _ kF_RX4_10) (fun w h => tbc _ (uW2 w h)) rfl ob_0 rfl ?_
    refine a_callVv (n := 1) [.ref _] (C := RX0) (ci := 0) (qc := (RX0, TX0, 9)) (fsF := fl0 G _) ob_6.1 (fun _ => en0 ob_6.2) rfl rfl dX4_floods_21 (s0_becomes ob_6 ob_1 h) (gV tbc kM_RX4_65_X0_becomes kI_X0_becomes kS_X0_becomes kN_RX0 kC_X0_becomes) rfl (by decide +kernel) ⟨Nat.le_of_ble_eq_true rfl, Nat.le_of_ble_eq_true rfl⟩ rfl rfl (Nat.le_of_ble_eq_true rfl) ⟨Nat.le_refl 0, Nat.le_refl 0⟩ (fun M h => ?_)
    refine a_iconst (v := 0) dX4_floods_24 (by decide) ?_
    refine a_istore_n (i := 2) (L' := [(2, .int _), (0, .ref _), (1, .int _)]) dX4_floods_25 rfl (by decide) rfl ?_
    refine a_sub [1, 2, 0] rfl ?_
    exact s4_floods_c26 _ _ _ _ h
  · have h := h.2 c
    refine a_aload_n dX4_floods_7 0 rfl ?_
    refine a_iconst (v := -1) dX4_floods_8 (by decide) ?_
    refine a_callVi (n := 1) [.int _] (C := RX4) (ci := 2) (qc := (RX4, TX4, 12)) (fsF := fl2 G _) ob_0.1 (fun _ => en2 ob_0.2) rfl rfl dX4_floods_9 (s4_refused h) (gV tbc kM_RX4_43_X4_refused kI_X4_refused kS_X4_refused kN_RX4 kC_X4_refused) rfl (by decide +kernel) ⟨Nat.le_of_ble_eq_true rfl, Nat.le_of_ble_eq_true rfl⟩ rfl rfl (Nat.le_of_ble_eq_true rfl) ⟨Nat.le_refl 0, Nat.le_refl 0⟩ (fun r M h => ?_)
    exact a_iret dX4_floods_12 ⟨_, rfl, h⟩

/-! X4_floodsAsTold -/
theorem dX4_floodsAsTold_0 : decode cX4_floodsAsTold 0 = .ok (.iconst 0, 1) := by decide +kernel
theorem dX4_floodsAsTold_1 : decode cX4_floodsAsTold 1 = .ok (.istore_n 1, 1) := by decide +kernel
theorem dX4_floodsAsTold_2 : decode cX4_floodsAsTold 2 = .ok (.iload_n 1, 1) := by decide +kernel
theorem dX4_floodsAsTold_3 : decode cX4_floodsAsTold 3 = .ok (.aload_n 0, 1) := by decide +kernel
theorem dX4_floodsAsTold_4 : decode cX4_floodsAsTold 4 = .ok (.getfield 290, 3) := by decide +kernel
theorem dX4_floodsAsTold_7 : decode cX4_floodsAsTold 7 = .ok (.if_icmp .ge 44, 3) := by decide +kernel
theorem dX4_floodsAsTold_10 : decode cX4_floodsAsTold 10 = .ok (.iload_n 1, 1) := by decide +kernel
theorem dX4_floodsAsTold_11 : decode cX4_floodsAsTold 11 = .ok (.bipush 12, 2) := by decide +kernel
theorem dX4_floodsAsTold_13 : decode cX4_floodsAsTold 13 = .ok (.if_icmp .ge 38, 3) := by decide +kernel
theorem dX4_floodsAsTold_16 : decode cX4_floodsAsTold 16 = .ok (.aload_n 0, 1) := by decide +kernel
theorem dX4_floodsAsTold_17 : decode cX4_floodsAsTold 17 = .ok (.getfield 16, 3) := by decide +kernel
theorem dX4_floodsAsTold_20 : decode cX4_floodsAsTold 20 = .ok (.invokevirtual 180, 3) := by decide +kernel
theorem dX4_floodsAsTold_23 : decode cX4_floodsAsTold 23 = .ok (.invokestatic 254, 3) := by decide +kernel
theorem dX4_floodsAsTold_26 : decode cX4_floodsAsTold 26 = .ok (.aload_n 0, 1) := by decide +kernel
theorem dX4_floodsAsTold_27 : decode cX4_floodsAsTold 27 = .ok (.getfield 33, 3) := by decide +kernel
theorem dX4_floodsAsTold_30 : decode cX4_floodsAsTold 30 = .ok (.iload_n 1, 1) := by decide +kernel
theorem dX4_floodsAsTold_31 : decode cX4_floodsAsTold 31 = .ok (.iaload, 1) := by decide +kernel
theorem dX4_floodsAsTold_32 : decode cX4_floodsAsTold 32 = .ok (.if_icmp .eq 5, 3) := by decide +kernel
theorem dX4_floodsAsTold_35 : decode cX4_floodsAsTold 35 = .ok (.iconst 0, 1) := by decide +kernel
theorem dX4_floodsAsTold_36 : decode cX4_floodsAsTold 36 = .ok (.ireturn, 1) := by decide +kernel
theorem dX4_floodsAsTold_37 : decode cX4_floodsAsTold 37 = .ok (.aload_n 0, 1) := by decide +kernel
theorem dX4_floodsAsTold_38 : decode cX4_floodsAsTold 38 = .ok (.getfield 16, 3) := by decide +kernel
theorem dX4_floodsAsTold_41 : decode cX4_floodsAsTold 41 = .ok (.iconst 1, 1) := by decide +kernel
theorem dX4_floodsAsTold_42 : decode cX4_floodsAsTold 42 = .ok (.invokevirtual 155, 3) := by decide +kernel
theorem dX4_floodsAsTold_45 : decode cX4_floodsAsTold 45 = .ok (.iinc 1 1, 3) := by decide +kernel
theorem dX4_floodsAsTold_48 : decode cX4_floodsAsTold 48 = .ok (.goto (-46), 3) := by decide +kernel
theorem dX4_floodsAsTold_51 : decode cX4_floodsAsTold 51 = .ok (.iconst 1, 1) := by decide +kernel
theorem dX4_floodsAsTold_52 : decode cX4_floodsAsTold 52 = .ok (.ireturn, 1) := by decide +kernel
abbrev A4_floodsAsTold (G : GG) (Q : Int32 → MM → Prop) := AW G E0 (MZ G (qI Q)) (WY yX4_floodsAsTold cX4_floodsAsTold 2 (some .boolean)) RX4 cX4_floodsAsTold 2 (some .boolean) ({ frames := 4, cells := 0, slots := 0, locals := 94 } : Room) 0 0
def D4_floodsAsTold_c2 (Q : Int32 → MM → Prop) : Nat → Int32 → MM → Prop
  | 0, _, _ => False
  | n + 1, x1, M => (((M 0 8) ≤ x1 → Q (1 : Int32) M) ∧ (¬ (M 0 8) ≤ x1 → (((12 : Int32) ≤ x1 → Q (1 : Int32) M) ∧ (¬ (12 : Int32) ≤ x1 → D0_wetNow 6 M (fun (r1 : Int32) (M2 : MM) => DJ6_bitCount r1 M2 (fun (r3 : Int32) (M4 : MM) => ib 59 x1 ∧ ((r3 = (M4 59 (ix x1)) → D0_goesOn 6 (1 : Int32) M4 (fun (M6 : MM) => (fun v7 : Int32 => D4_floodsAsTold_c2 Q n v7 M6) (x1 + (1 : Int32)))) ∧ (¬ r3 = (M4 59 (ix x1)) → Q (0 : Int32) M4))))))))
def D4_floodsAsTold (M : MM) (Q : Int32 → MM → Prop) : Prop := D4_floodsAsTold_c2 Q FU (0 : Int32) M
set_option maxHeartbeats 4000000 in
set_option maxRecDepth 100000 in
theorem s4_floodsAsTold_c2 {G : GG} {Q : Int32 → MM → Prop} : ∀ (n : Nat) (x1 : Int32) (M : MM), D4_floodsAsTold_c2 Q n x1 M → A4_floodsAsTold G Q 2 [(0, .ref (gA G 0)), (1, .int x1)] [] M := by
  intro n
  induction n with
  | zero => intro x1 M h; exact h.elim
  | succ n ih =>
    intro x1 M h
    unfold D4_floodsAsTold_c2 at h
    refine a_iload_n dX4_floodsAsTold_2 1 rfl ?_
    refine a_aload_n dX4_floodsAsTold_3 0 rfl ?_
    refine a_get2 dX4_floodsAsTold_4 8 (by decide) (tbc _ kF_RX4_290) (fun w h => tbc _ (uW2 w h)) rfl ob_0 rfl ?_
    refine a_icmp_ge (tgt := 51) dX4_floodsAsTold_7 (by decide) (fun c => ?_) (fun c => ?_)
    · have h := h.1 c
      refine a_iconst (v := 1) dX4_floodsAsTold_51 (by decide) ?_
      exact a_zret dX4_floodsAsTold_52 (Or.inr rfl) ⟨_, rfl, h⟩
    · have h := h.2 c
      refine a_iload_n dX4_floodsAsTold_10 1 rfl ?_
      refine a_bipush (v := 12) dX4_floodsAsTold_11 (by decide) ?_
      refine a_icmp_ge (tgt := 51) dX4_floodsAsTold_13 (by decide) (fun c => ?_) (fun c => ?_)
      · have h := h.1 c
        refine a_iconst (v := 1) dX4_floodsAsTold_51 (by decide) ?_
        exact a_zret dX4_floodsAsTold_52 (Or.inr rfl) ⟨_, rfl, h⟩
      · have h := h.2 c
        refine a_aload_n dX4_floodsAsTold_16 0 rfl ?_
        refine a_get2 dX4_floodsAsTold_17 1 (by decide) (tbc _ kF_RX4_16) (fun w h => tbc _ (uW2 w h)) rfl ob_0 rfl ?_
        refine a_callVi (n := 0) [] (C := RX0) (ci := 0) (qc := (RX0, TX0, 9)) (fsF := fl0 G _) ob_6.1 (fun _ => en0 ob_6.2) rfl rfl dX4_floodsAsTold_20 (s0_wetNow ob_6 h) (gV tbc kM_RX4_180_X0_wetNow kI_X0_wetNow kS_X0_wetNow kN_RX0 kC_X0_wetNow) rfl (by decide +kernel) ⟨Nat.le_of_ble_eq_true rfl, Nat.le_of_ble_eq_true rfl⟩ rfl rfl (Nat.le_of_ble_eq_true rfl) ⟨Nat.le_refl 0, Nat.le_refl 0⟩ (fun r M h => ?_)
        refine a_callSi (n := 1) [.int _] dX4_floodsAsTold_23 (sJ6_bitCount h) (gS tbc kM_RX4_254_J6_bitCount_0f7a4 kT_J6_bitCount_0f7a4 kN_RJ6 kC_J6_bitCount_0f7a4) rfl (by decide +kernel) ⟨Nat.le_of_ble_eq_true rfl, Nat.le_of_ble_eq_true rfl⟩ rfl rfl (Nat.le_of_ble_eq_true rfl) ⟨Nat.le_refl 0, Nat.le_refl 0⟩ (fun r M h => ?_)
        refine a_aload_n dX4_floodsAsTold_26 0 rfl ?_
        refine a_get2 dX4_floodsAsTold_27 5 (by decide) (tbc _ kF_RX4_33) (fun w h => tbc _ (uW2 w h)) rfl ob_0 rfl ?_
        refine a_iload_n dX4_floodsAsTold_30 1 rfl ?_
        refine a_iald dX4_floodsAsTold_31 h.1 ?_
        have h := h.2
        refine a_icmp_eq (tgt := 37) dX4_floodsAsTold_32 (by decide) (fun c => ?_) (fun c => ?_)
        · have h := h.1 c
          refine a_aload_n dX4_floodsAsTold_37 0 rfl ?_
          refine a_get2 dX4_floodsAsTold_38 1 (by decide) (tbc _ kF_RX4_16) (fun w h => tbc _ (uW2 w h)) rfl ob_0 rfl ?_
          refine a_iconst (v := 1) dX4_floodsAsTold_41 (by decide) ?_
          refine a_callVv (n := 1) [.int _] (C := RX0) (ci := 0) (qc := (RX0, TX0, 9)) (fsF := fl0 G _) ob_6.1 (fun _ => en0 ob_6.2) rfl rfl dX4_floodsAsTold_42 (s0_goesOn ob_6 h) (gV tbc kM_RX4_155_X0_goesOn kI_X0_goesOn kS_X0_goesOn kN_RX0 kC_X0_goesOn) rfl (by decide +kernel) ⟨Nat.le_of_ble_eq_true rfl, Nat.le_of_ble_eq_true rfl⟩ rfl rfl (Nat.le_of_ble_eq_true rfl) ⟨Nat.le_refl 0, Nat.le_refl 0⟩ (fun M h => ?_)
          refine a_iinc (L' := [(1, .int _), (0, .ref _)]) dX4_floodsAsTold_45 1 rfl (show _ + Int32.ofInt (1 : Int) = _ + (1 : Int32) from rfl) (by decide) rfl ?_
          refine a_goto (tgt := 2) dX4_floodsAsTold_48 (by decide) ?_
          refine a_sub [1, 0] rfl ?_
          exact ih _ _ h
        · have h := h.2 c
          refine a_iconst (v := 0) dX4_floodsAsTold_35 (by decide) ?_
          exact a_zret dX4_floodsAsTold_36 (Or.inl rfl) ⟨_, rfl, h⟩
set_option maxHeartbeats 4000000 in
set_option maxRecDepth 100000 in
theorem s4_floodsAsTold {G : GG} {M : MM} {Q : Int32 → MM → Prop} (h : D4_floodsAsTold M Q) : CM G yX4_floodsAsTold (WY yX4_floodsAsTold cX4_floodsAsTold 2 (some .boolean)) 4 94 [.ref (gA G 0)] M (qI Q) := by
  refine CM.of (cc := cX4_floodsAsTold) (nL := 2) (ret := (some .boolean)) (own := RX4) (by decide +kernel) rfl rfl (Nat.le_of_ble_eq_true rfl) ?_
  show A4_floodsAsTold G Q 0 [(0, .ref (gA G 0))] [] M
  unfold D4_floodsAsTold at h
  refine a_iconst (v := 0) dX4_floodsAsTold_0 (by decide) ?_
  refine a_istore_n (i := 1) (L' := [(1, .int _), (0, .ref _)]) dX4_floodsAsTold_1 rfl (by decide) rfl ?_
  refine a_sub [1, 0] rfl ?_
  exact s4_floodsAsTold_c2 _ _ _ h

/-! X4_fraction -/
theorem dX4_fraction_0 : decode cX4_fraction 0 = .ok (.lload_n 0, 1) := by decide +kernel
theorem dX4_fraction_1 : decode cX4_fraction 1 = .ok (.lconst 0, 1) := by decide +kernel
theorem dX4_fraction_2 : decode cX4_fraction 2 = .ok (.lcmp, 1) := by decide +kernel
theorem dX4_fraction_3 : decode cX4_fraction 3 = .ok (.ifCond .ne 7, 3) := by decide +kernel
theorem dX4_fraction_6 : decode cX4_fraction 6 = .ok (.iload 4, 2) := by decide +kernel
theorem dX4_fraction_8 : decode cX4_fraction 8 = .ok (.i2l, 1) := by decide +kernel
theorem dX4_fraction_9 : decode cX4_fraction 9 = .ok (.lreturn, 1) := by decide +kernel
theorem dX4_fraction_10 : decode cX4_fraction 10 = .ok (.lload_n 0, 1) := by decide +kernel
theorem dX4_fraction_11 : decode cX4_fraction 11 = .ok (.lstore 5, 2) := by decide +kernel
theorem dX4_fraction_13 : decode cX4_fraction 13 = .ok (.lload_n 2, 1) := by decide +kernel
theorem dX4_fraction_14 : decode cX4_fraction 14 = .ok (.lstore 7, 2) := by decide +kernel
theorem dX4_fraction_16 : decode cX4_fraction 16 = .ok (.iconst 0, 1) := by decide +kernel
theorem dX4_fraction_17 : decode cX4_fraction 17 = .ok (.istore 9, 2) := by decide +kernel
theorem dX4_fraction_19 : decode cX4_fraction 19 = .ok (.iload 9, 2) := by decide +kernel
theorem dX4_fraction_21 : decode cX4_fraction 21 = .ok (.sipush 200, 3) := by decide +kernel
theorem dX4_fraction_24 : decode cX4_fraction 24 = .ok (.if_icmp .ge 31, 3) := by decide +kernel
theorem dX4_fraction_27 : decode cX4_fraction 27 = .ok (.lload 7, 2) := by decide +kernel
theorem dX4_fraction_29 : decode cX4_fraction 29 = .ok (.lconst 0, 1) := by decide +kernel
theorem dX4_fraction_30 : decode cX4_fraction 30 = .ok (.lcmp, 1) := by decide +kernel
theorem dX4_fraction_31 : decode cX4_fraction 31 = .ok (.ifCond .eq 24, 3) := by decide +kernel
theorem dX4_fraction_34 : decode cX4_fraction 34 = .ok (.lload 5, 2) := by decide +kernel
theorem dX4_fraction_36 : decode cX4_fraction 36 = .ok (.lload 7, 2) := by decide +kernel
theorem dX4_fraction_38 : decode cX4_fraction 38 = .ok (.lrem, 1) := by decide +kernel
theorem dX4_fraction_39 : decode cX4_fraction 39 = .ok (.lstore 10, 2) := by decide +kernel
theorem dX4_fraction_41 : decode cX4_fraction 41 = .ok (.lload 7, 2) := by decide +kernel
theorem dX4_fraction_43 : decode cX4_fraction 43 = .ok (.lstore 5, 2) := by decide +kernel
theorem dX4_fraction_45 : decode cX4_fraction 45 = .ok (.lload 10, 2) := by decide +kernel
theorem dX4_fraction_47 : decode cX4_fraction 47 = .ok (.lstore 7, 2) := by decide +kernel
theorem dX4_fraction_49 : decode cX4_fraction 49 = .ok (.iinc 9 1, 3) := by decide +kernel
theorem dX4_fraction_52 : decode cX4_fraction 52 = .ok (.goto (-33), 3) := by decide +kernel
theorem dX4_fraction_55 : decode cX4_fraction 55 = .ok (.lload 5, 2) := by decide +kernel
theorem dX4_fraction_57 : decode cX4_fraction 57 = .ok (.lconst 0, 1) := by decide +kernel
theorem dX4_fraction_58 : decode cX4_fraction 58 = .ok (.lcmp, 1) := by decide +kernel
theorem dX4_fraction_59 : decode cX4_fraction 59 = .ok (.ifCond .ne 7, 3) := by decide +kernel
theorem dX4_fraction_62 : decode cX4_fraction 62 = .ok (.iload 4, 2) := by decide +kernel
theorem dX4_fraction_64 : decode cX4_fraction 64 = .ok (.i2l, 1) := by decide +kernel
theorem dX4_fraction_65 : decode cX4_fraction 65 = .ok (.lreturn, 1) := by decide +kernel
theorem dX4_fraction_66 : decode cX4_fraction 66 = .ok (.iload 4, 2) := by decide +kernel
theorem dX4_fraction_68 : decode cX4_fraction 68 = .ok (.ifCond .ne 10, 3) := by decide +kernel
theorem dX4_fraction_71 : decode cX4_fraction 71 = .ok (.lload_n 0, 1) := by decide +kernel
theorem dX4_fraction_72 : decode cX4_fraction 72 = .ok (.lload 5, 2) := by decide +kernel
theorem dX4_fraction_74 : decode cX4_fraction 74 = .ok (.ldiv, 1) := by decide +kernel
theorem dX4_fraction_75 : decode cX4_fraction 75 = .ok (.goto 7, 3) := by decide +kernel
theorem dX4_fraction_78 : decode cX4_fraction 78 = .ok (.lload_n 2, 1) := by decide +kernel
theorem dX4_fraction_79 : decode cX4_fraction 79 = .ok (.lload 5, 2) := by decide +kernel
theorem dX4_fraction_81 : decode cX4_fraction 81 = .ok (.ldiv, 1) := by decide +kernel
theorem dX4_fraction_82 : decode cX4_fraction 82 = .ok (.lreturn, 1) := by decide +kernel
abbrev A4_fraction (G : GG) (Q : Int64 → MM → Prop) := AW G E0 (MZ G (qL Q)) (WY yX4_fraction cX4_fraction 12 (some .long)) RX4 cX4_fraction 12 (some .long) ({ frames := 0, cells := 0, slots := 0, locals := 0 } : Room) 0 0
def D4_fraction_c55 (Q : Int64 → MM → Prop) (x0 : Int64) (x2 : Int64) (x4 : Int32) (x5 : Int64) (M : MM) : Prop := (((lg_cmp x5 (0 : Int64)) ≠ 0 → ((x4 ≠ 0 → ¬ x5 = 0 ∧ Q (x2 / x5) M) ∧ (x4 = 0 → ¬ x5 = 0 ∧ Q (x0 / x5) M))) ∧ ((lg_cmp x5 (0 : Int64)) = 0 → Q x4.toInt64 M))
def D4_fraction_c19 (Q : Int64 → MM → Prop) : Nat → Int64 → Int64 → Int32 → Int64 → Int64 → Int32 → MM → Prop
  | 0, _, _, _, _, _, _, _ => False
  | n + 1, x0, x2, x4, x5, x7, x9, M => (((200 : Int32) ≤ x9 → D4_fraction_c55 Q x0 x2 x4 x5 M) ∧ (¬ (200 : Int32) ≤ x9 → (((lg_cmp x7 (0 : Int64)) = 0 → D4_fraction_c55 Q x0 x2 x4 x5 M) ∧ (¬ (lg_cmp x7 (0 : Int64)) = 0 → ¬ x7 = 0 ∧ (fun v1 : Int64 => (fun v2 : Int32 => D4_fraction_c19 Q n x0 x2 x4 x7 v1 v2 M) (x9 + (1 : Int32))) (x5 - x5 / x7 * x7)))))
def D4_fraction (x0 : Int64) (x2 : Int64) (x4 : Int32) (M : MM) (Q : Int64 → MM → Prop) : Prop := (((lg_cmp x0 (0 : Int64)) ≠ 0 → D4_fraction_c19 Q FU x0 x2 x4 x0 x2 (0 : Int32) M) ∧ ((lg_cmp x0 (0 : Int64)) = 0 → Q x4.toInt64 M))
set_option maxHeartbeats 4000000 in
set_option maxRecDepth 100000 in
theorem s4_fraction_c55 {G : GG} {Q : Int64 → MM → Prop} : ∀ (x0 : Int64) (x2 : Int64) (x4 : Int32) (x5 : Int64) (M : MM), D4_fraction_c55 Q x0 x2 x4 x5 M → A4_fraction G Q 55 [(0, .long x0), (2, .long x2), (4, .int x4), (5, .long x5)] [] M := by
  intro x0 x2 x4 x5 M h
  unfold D4_fraction_c55 at h
  refine a_lload dX4_fraction_55 3 rfl ?_
  refine a_lconst (v := 0) dX4_fraction_57 (by decide) ?_
  refine a_lcmp dX4_fraction_58 ?_
  refine a_if_ne (tgt := 66) dX4_fraction_59 (by decide) (fun c => ?_) (fun c => ?_)
  · have h := h.1 c
    refine a_iload dX4_fraction_66 2 rfl ?_
    refine a_if_ne (tgt := 78) dX4_fraction_68 (by decide) (fun c => ?_) (fun c => ?_)
    · have h := h.1 c
      refine a_lload_n dX4_fraction_78 1 rfl ?_
      refine a_lload dX4_fraction_79 3 rfl ?_
      refine a_ldiv dX4_fraction_81 h.1 ?_
      have h := h.2
      exact a_lret dX4_fraction_82 ⟨_, rfl, h⟩
    · have h := h.2 c
      refine a_lload_n dX4_fraction_71 0 rfl ?_
      refine a_lload dX4_fraction_72 3 rfl ?_
      refine a_ldiv dX4_fraction_74 h.1 ?_
      have h := h.2
      refine a_goto (tgt := 82) dX4_fraction_75 (by decide) ?_
      exact a_lret dX4_fraction_82 ⟨_, rfl, h⟩
  · have h := h.2 c
    refine a_iload dX4_fraction_62 2 rfl ?_
    refine a_i2l dX4_fraction_64 ?_
    exact a_lret dX4_fraction_65 ⟨_, rfl, h⟩
set_option maxHeartbeats 4000000 in
set_option maxRecDepth 100000 in
theorem s4_fraction_c19 {G : GG} {Q : Int64 → MM → Prop} : ∀ (n : Nat) (x0 : Int64) (x2 : Int64) (x4 : Int32) (x5 : Int64) (x7 : Int64) (x9 : Int32) (M : MM), D4_fraction_c19 Q n x0 x2 x4 x5 x7 x9 M → A4_fraction G Q 19 [(0, .long x0), (2, .long x2), (4, .int x4), (5, .long x5), (7, .long x7), (9, .int x9)] [] M := by
  intro n
  induction n with
  | zero => intro x0 x2 x4 x5 x7 x9 M h; exact h.elim
  | succ n ih =>
    intro x0 x2 x4 x5 x7 x9 M h
    unfold D4_fraction_c19 at h
    refine a_iload dX4_fraction_19 5 rfl ?_
    refine a_sipush (v := 200) dX4_fraction_21 (by decide) ?_
    refine a_icmp_ge (tgt := 55) dX4_fraction_24 (by decide) (fun c => ?_) (fun c => ?_)
    · have h := h.1 c
      refine a_sub [0, 1, 2, 3] rfl ?_
      exact s4_fraction_c55 _ _ _ _ _ h
    · have h := h.2 c
      refine a_lload dX4_fraction_27 4 rfl ?_
      refine a_lconst (v := 0) dX4_fraction_29 (by decide) ?_
      refine a_lcmp dX4_fraction_30 ?_
      refine a_if_eq (tgt := 55) dX4_fraction_31 (by decide) (fun c => ?_) (fun c => ?_)
      · have h := h.1 c
        refine a_sub [0, 1, 2, 3] rfl ?_
        exact s4_fraction_c55 _ _ _ _ _ h
      · have h := h.2 c
        refine a_lload dX4_fraction_34 3 rfl ?_
        refine a_lload dX4_fraction_36 4 rfl ?_
        refine a_lrem dX4_fraction_38 h.1 ?_
        have h := h.2
        refine a_lstore (i := 10) (L' := [(10, .long _), (0, .long _), (2, .long _), (4, .int _), (5, .long _), (7, .long _), (9, .int _)]) dX4_fraction_39 (by decide) rfl ?_
        refine a_lload dX4_fraction_41 5 rfl ?_
        refine a_lstore (i := 5) (L' := [(5, .long _), (10, .long _), (0, .long _), (2, .long _), (4, .int _), (7, .long _), (9, .int _)]) dX4_fraction_43 (by decide) rfl ?_
        refine a_lload dX4_fraction_45 1 rfl ?_
        refine a_lstore (i := 7) (L' := [(7, .long _), (5, .long _), (10, .long _), (0, .long _), (2, .long _), (4, .int _), (9, .int _)]) dX4_fraction_47 (by decide) rfl ?_
        refine a_iinc (L' := [(9, .int _), (7, .long _), (5, .long _), (10, .long _), (0, .long _), (2, .long _), (4, .int _)]) dX4_fraction_49 6 rfl (show _ + Int32.ofInt (1 : Int) = _ + (1 : Int32) from rfl) (by decide) rfl ?_
        refine a_goto (tgt := 19) dX4_fraction_52 (by decide) ?_
        refine a_sub [4, 5, 6, 2, 1, 0] rfl ?_
        exact ih _ _ _ _ _ _ _ h
set_option maxHeartbeats 4000000 in
set_option maxRecDepth 100000 in
theorem s4_fraction {G : GG} {x0 : Int64} {x2 : Int64} {x4 : Int32} {M : MM} {Q : Int64 → MM → Prop} (h : D4_fraction x0 x2 x4 M Q) : CM G yX4_fraction (WY yX4_fraction cX4_fraction 12 (some .long)) 0 0 [.long x0, .long x2, .int x4] M (qL Q) := by
  refine CM.of (cc := cX4_fraction) (nL := 12) (ret := (some .long)) (own := RX4) (by decide +kernel) rfl rfl (Nat.le_of_ble_eq_true rfl) ?_
  show A4_fraction G Q 0 [(0, .long x0), (2, .long x2), (4, .int x4)] [] M
  unfold D4_fraction at h
  refine a_lload_n dX4_fraction_0 0 rfl ?_
  refine a_lconst (v := 0) dX4_fraction_1 (by decide) ?_
  refine a_lcmp dX4_fraction_2 ?_
  refine a_if_ne (tgt := 10) dX4_fraction_3 (by decide) (fun c => ?_) (fun c => ?_)
  · have h := h.1 c
    refine a_lload_n dX4_fraction_10 0 rfl ?_
    refine a_lstore (i := 5) (L' := [(5, .long _), (0, .long _), (2, .long _), (4, .int _)]) dX4_fraction_11 (by decide) rfl ?_
    refine a_lload_n dX4_fraction_13 2 rfl ?_
    refine a_lstore (i := 7) (L' := [(7, .long _), (5, .long _), (0, .long _), (2, .long _), (4, .int _)]) dX4_fraction_14 (by decide) rfl ?_
    refine a_iconst (v := 0) dX4_fraction_16 (by decide) ?_
    refine a_istore (i := 9) (L' := [(9, .int _), (7, .long _), (5, .long _), (0, .long _), (2, .long _), (4, .int _)]) dX4_fraction_17 (by decide) rfl ?_
    refine a_sub [3, 4, 5, 2, 1, 0] rfl ?_
    exact s4_fraction_c19 _ _ _ _ _ _ _ _ h
  · have h := h.2 c
    refine a_iload dX4_fraction_6 2 rfl ?_
    refine a_i2l dX4_fraction_8 ?_
    exact a_lret dX4_fraction_9 ⟨_, rfl, h⟩

/-! X4_hours -/
theorem dX4_hours_0 : decode cX4_hours 0 = .ok (.iload_n 1, 1) := by decide +kernel
theorem dX4_hours_1 : decode cX4_hours 1 = .ok (.iconst 1, 1) := by decide +kernel
theorem dX4_hours_2 : decode cX4_hours 2 = .ok (.if_icmp .ge 10, 3) := by decide +kernel
theorem dX4_hours_5 : decode cX4_hours 5 = .ok (.aload_n 0, 1) := by decide +kernel
theorem dX4_hours_6 : decode cX4_hours 6 = .ok (.bipush (-4), 2) := by decide +kernel
theorem dX4_hours_8 : decode cX4_hours 8 = .ok (.invokevirtual 43, 3) := by decide +kernel
theorem dX4_hours_11 : decode cX4_hours 11 = .ok (.ireturn, 1) := by decide +kernel
theorem dX4_hours_12 : decode cX4_hours 12 = .ok (.iload_n 1, 1) := by decide +kernel
theorem dX4_hours_13 : decode cX4_hours 13 = .ok (.bipush 60, 2) := by decide +kernel
theorem dX4_hours_15 : decode cX4_hours 15 = .ok (.if_icmp .gt 18, 3) := by decide +kernel
theorem dX4_hours_18 : decode cX4_hours 18 = .ok (.aload_n 0, 1) := by decide +kernel
theorem dX4_hours_19 : decode cX4_hours 19 = .ok (.getfield 10, 3) := by decide +kernel
theorem dX4_hours_22 : decode cX4_hours 22 = .ok (.getfield 152, 3) := by decide +kernel
theorem dX4_hours_25 : decode cX4_hours 25 = .ok (.iload_n 1, 1) := by decide +kernel
theorem dX4_hours_26 : decode cX4_hours 26 = .ok (.iadd, 1) := by decide +kernel
theorem dX4_hours_27 : decode cX4_hours 27 = .ok (.sipush 999, 3) := by decide +kernel
theorem dX4_hours_30 : decode cX4_hours 30 = .ok (.if_icmp .le 10, 3) := by decide +kernel
theorem dX4_hours_33 : decode cX4_hours 33 = .ok (.aload_n 0, 1) := by decide +kernel
theorem dX4_hours_34 : decode cX4_hours 34 = .ok (.bipush (-6), 2) := by decide +kernel
theorem dX4_hours_36 : decode cX4_hours 36 = .ok (.invokevirtual 43, 3) := by decide +kernel
theorem dX4_hours_39 : decode cX4_hours 39 = .ok (.ireturn, 1) := by decide +kernel
theorem dX4_hours_40 : decode cX4_hours 40 = .ok (.aload_n 0, 1) := by decide +kernel
theorem dX4_hours_41 : decode cX4_hours 41 = .ok (.invokevirtual 133, 3) := by decide +kernel
theorem dX4_hours_44 : decode cX4_hours 44 = .ok (.aload_n 0, 1) := by decide +kernel
theorem dX4_hours_45 : decode cX4_hours 45 = .ok (.getfield 10, 3) := by decide +kernel
theorem dX4_hours_48 : decode cX4_hours 48 = .ok (.iload_n 1, 1) := by decide +kernel
theorem dX4_hours_49 : decode cX4_hours 49 = .ok (.invokevirtual 155, 3) := by decide +kernel
theorem dX4_hours_52 : decode cX4_hours 52 = .ok (.aload_n 0, 1) := by decide +kernel
theorem dX4_hours_53 : decode cX4_hours 53 = .ok (.getfield 10, 3) := by decide +kernel
theorem dX4_hours_56 : decode cX4_hours 56 = .ok (.getfield 158, 3) := by decide +kernel
theorem dX4_hours_59 : decode cX4_hours 59 = .ok (.ireturn, 1) := by decide +kernel
abbrev A4_hours (G : GG) (Q : Int32 → MM → Prop) := AW G E0 (MZ G (qI Q)) (WY yX4_hours cX4_hours 2 (some .int)) RX4 cX4_hours 2 (some .int) ({ frames := 4, cells := 0, slots := 0, locals := 94 } : Room) 0 0
def D4_hours_c33 (Q : Int32 → MM → Prop) (M : MM) : Prop := D4_refused (-6 : Int32) M (fun (r7 : Int32) (M8 : MM) => Q r7 M8)
def D4_hours (x1 : Int32) (M : MM) (Q : Int32 → MM → Prop) : Prop := (((1 : Int32) ≤ x1 → (((60 : Int32) < x1 → D4_hours_c33 Q M) ∧ (¬ (60 : Int32) < x1 → ((((M 1 6) + x1) ≤ (999 : Int32) → D4_remembers M (fun (M2 : MM) => D0_goesOn 1 x1 M2 (fun (M4 : MM) => Q (M4 1 7) M4))) ∧ (¬ ((M 1 6) + x1) ≤ (999 : Int32) → D4_hours_c33 Q M))))) ∧ (¬ (1 : Int32) ≤ x1 → D4_refused (-4 : Int32) M (fun (r5 : Int32) (M6 : MM) => Q r5 M6)))
set_option maxHeartbeats 4000000 in
set_option maxRecDepth 100000 in
theorem s4_hours_c33 {G : GG} {Q : Int32 → MM → Prop} : ∀  (M : MM), D4_hours_c33 Q M → A4_hours G Q 33 [(0, .ref (gA G 0))] [] M := by
  intro  M h
  unfold D4_hours_c33 at h
  refine a_aload_n dX4_hours_33 0 rfl ?_
  refine a_bipush (v := -6) dX4_hours_34 (by decide) ?_
  refine a_callVi (n := 1) [.int _] (C := RX4) (ci := 2) (qc := (RX4, TX4, 12)) (fsF := fl2 G _) ob_0.1 (fun _ => en2 ob_0.2) rfl rfl dX4_hours_36 (s4_refused h) (gV tbc kM_RX4_43_X4_refused kI_X4_refused kS_X4_refused kN_RX4 kC_X4_refused) rfl (by decide +kernel) ⟨Nat.le_of_ble_eq_true rfl, Nat.le_of_ble_eq_true rfl⟩ rfl rfl (Nat.le_of_ble_eq_true rfl) ⟨Nat.le_refl 0, Nat.le_refl 0⟩ (fun r M h => ?_)
  exact a_iret dX4_hours_39 ⟨_, rfl, h⟩
set_option maxHeartbeats 4000000 in
set_option maxRecDepth 100000 in
theorem s4_hours {G : GG} {x1 : Int32} {M : MM} {Q : Int32 → MM → Prop} (h : D4_hours x1 M Q) : CM G yX4_hours (WY yX4_hours cX4_hours 2 (some .int)) 4 94 [.ref (gA G 0), .int x1] M (qI Q) := by
  refine CM.of (cc := cX4_hours) (nL := 2) (ret := (some .int)) (own := RX4) (by decide +kernel) rfl rfl (Nat.le_of_ble_eq_true rfl) ?_
  show A4_hours G Q 0 [(0, .ref (gA G 0)), (1, .int x1)] [] M
  unfold D4_hours at h
  refine a_iload_n dX4_hours_0 1 rfl ?_
  refine a_iconst (v := 1) dX4_hours_1 (by decide) ?_
  refine a_icmp_ge (tgt := 12) dX4_hours_2 (by decide) (fun c => ?_) (fun c => ?_)
  · have h := h.1 c
    refine a_iload_n dX4_hours_12 1 rfl ?_
    refine a_bipush (v := 60) dX4_hours_13 (by decide) ?_
    refine a_icmp_gt (tgt := 33) dX4_hours_15 (by decide) (fun c => ?_) (fun c => ?_)
    · have h := h.1 c
      refine a_sub [0] rfl ?_
      exact s4_hours_c33 _ h
    · have h := h.2 c
      refine a_aload_n dX4_hours_18 0 rfl ?_
      refine a_get2 dX4_hours_19 0 (by decide) (tbc _ kF_RX4_10) (fun w h => tbc _ (uW2 w h)) rfl ob_0 rfl ?_
      refine a_getN0 dX4_hours_22 6 (by decide) (fun _ h => h.2.2.1) (fun w h => tbc _ (uW0 w h)) rfl ob_1 rfl ?_
      refine a_iload_n dX4_hours_25 1 rfl ?_
      refine a_iadd dX4_hours_26 ?_
      refine a_sipush (v := 999) dX4_hours_27 (by decide) ?_
      refine a_icmp_le (tgt := 40) dX4_hours_30 (by decide) (fun c => ?_) (fun c => ?_)
      · have h := h.1 c
        refine a_aload_n dX4_hours_40 0 rfl ?_
        refine a_callVv (n := 0) [] (C := RX4) (ci := 2) (qc := (RX4, TX4, 12)) (fsF := fl2 G _) ob_0.1 (fun _ => en2 ob_0.2) rfl rfl dX4_hours_41 (s4_remembers h) (gV tbc kM_RX4_133_X4_remembers kI_X4_remembers kS_X4_remembers kN_RX4 kC_X4_remembers) rfl (by decide +kernel) ⟨Nat.le_of_ble_eq_true rfl, Nat.le_of_ble_eq_true rfl⟩ rfl rfl (Nat.le_of_ble_eq_true rfl) ⟨Nat.le_refl 0, Nat.le_refl 0⟩ (fun M h => ?_)
        refine a_aload_n dX4_hours_44 0 rfl ?_
        refine a_get2 dX4_hours_45 0 (by decide) (tbc _ kF_RX4_10) (fun w h => tbc _ (uW2 w h)) rfl ob_0 rfl ?_
        refine a_iload_n dX4_hours_48 1 rfl ?_
        refine a_callVv (n := 1) [.int _] (C := RX0) (ci := 0) (qc := (RX0, TX0, 9)) (fsF := fl0 G _) ob_1.1 (fun _ => en0 ob_1.2) rfl rfl dX4_hours_49 (s0_goesOn ob_1 h) (gV tbc kM_RX4_155_X0_goesOn kI_X0_goesOn kS_X0_goesOn kN_RX0 kC_X0_goesOn) rfl (by decide +kernel) ⟨Nat.le_of_ble_eq_true rfl, Nat.le_of_ble_eq_true rfl⟩ rfl rfl (Nat.le_of_ble_eq_true rfl) ⟨Nat.le_refl 0, Nat.le_refl 0⟩ (fun M h => ?_)
        refine a_aload_n dX4_hours_52 0 rfl ?_
        refine a_get2 dX4_hours_53 0 (by decide) (tbc _ kF_RX4_10) (fun w h => tbc _ (uW2 w h)) rfl ob_0 rfl ?_
        refine a_getN0 dX4_hours_56 7 (by decide) (fun _ h => h.2.2.2.1) (fun w h => tbc _ (uW0 w h)) rfl ob_1 rfl ?_
        exact a_iret dX4_hours_59 ⟨_, rfl, h⟩
      · have h := h.2 c
        refine a_sub [0] rfl ?_
        exact s4_hours_c33 _ h
  · have h := h.2 c
    refine a_aload_n dX4_hours_5 0 rfl ?_
    refine a_bipush (v := -4) dX4_hours_6 (by decide) ?_
    refine a_callVi (n := 1) [.int _] (C := RX4) (ci := 2) (qc := (RX4, TX4, 12)) (fsF := fl2 G _) ob_0.1 (fun _ => en2 ob_0.2) rfl rfl dX4_hours_8 (s4_refused h) (gV tbc kM_RX4_43_X4_refused kI_X4_refused kS_X4_refused kN_RX4 kC_X4_refused) rfl (by decide +kernel) ⟨Nat.le_of_ble_eq_true rfl, Nat.le_of_ble_eq_true rfl⟩ rfl rfl (Nat.le_of_ble_eq_true rfl) ⟨Nat.le_refl 0, Nat.le_refl 0⟩ (fun r M h => ?_)
    exact a_iret dX4_hours_11 ⟨_, rfl, h⟩

/-! X4_howHigh -/
theorem dX4_howHigh_0 : decode cX4_howHigh 0 = .ok (.iconst 0, 1) := by decide +kernel
theorem dX4_howHigh_1 : decode cX4_howHigh 1 = .ok (.istore_n 1, 1) := by decide +kernel
theorem dX4_howHigh_2 : decode cX4_howHigh 2 = .ok (.iconst 0, 1) := by decide +kernel
theorem dX4_howHigh_3 : decode cX4_howHigh 3 = .ok (.istore_n 2, 1) := by decide +kernel
theorem dX4_howHigh_4 : decode cX4_howHigh 4 = .ok (.iload_n 2, 1) := by decide +kernel
theorem dX4_howHigh_5 : decode cX4_howHigh 5 = .ok (.bipush 12, 2) := by decide +kernel
theorem dX4_howHigh_7 : decode cX4_howHigh 7 = .ok (.if_icmp .ge 45, 3) := by decide +kernel
theorem dX4_howHigh_10 : decode cX4_howHigh 10 = .ok (.aload_n 0, 1) := by decide +kernel
theorem dX4_howHigh_11 : decode cX4_howHigh 11 = .ok (.getfield 16, 3) := by decide +kernel
theorem dX4_howHigh_14 : decode cX4_howHigh 14 = .ok (.aload_n 0, 1) := by decide +kernel
theorem dX4_howHigh_15 : decode cX4_howHigh 15 = .ok (.getfield 10, 3) := by decide +kernel
theorem dX4_howHigh_18 : decode cX4_howHigh 18 = .ok (.invokevirtual 65, 3) := by decide +kernel
theorem dX4_howHigh_21 : decode cX4_howHigh 21 = .ok (.aload_n 0, 1) := by decide +kernel
theorem dX4_howHigh_22 : decode cX4_howHigh 22 = .ok (.getfield 16, 3) := by decide +kernel
theorem dX4_howHigh_25 : decode cX4_howHigh 25 = .ok (.iload_n 2, 1) := by decide +kernel
theorem dX4_howHigh_26 : decode cX4_howHigh 26 = .ok (.putfield 152, 3) := by decide +kernel
theorem dX4_howHigh_29 : decode cX4_howHigh 29 = .ok (.iload_n 1, 1) := by decide +kernel
theorem dX4_howHigh_30 : decode cX4_howHigh 30 = .ok (.aload_n 0, 1) := by decide +kernel
theorem dX4_howHigh_31 : decode cX4_howHigh 31 = .ok (.invokevirtual 238, 3) := by decide +kernel
theorem dX4_howHigh_34 : decode cX4_howHigh 34 = .ok (.ifCond .eq 9, 3) := by decide +kernel
theorem dX4_howHigh_37 : decode cX4_howHigh 37 = .ok (.iconst 1, 1) := by decide +kernel
theorem dX4_howHigh_38 : decode cX4_howHigh 38 = .ok (.iload_n 2, 1) := by decide +kernel
theorem dX4_howHigh_39 : decode cX4_howHigh 39 = .ok (.ishl, 1) := by decide +kernel
theorem dX4_howHigh_40 : decode cX4_howHigh 40 = .ok (.goto 4, 3) := by decide +kernel
theorem dX4_howHigh_43 : decode cX4_howHigh 43 = .ok (.iconst 0, 1) := by decide +kernel
theorem dX4_howHigh_44 : decode cX4_howHigh 44 = .ok (.ior, 1) := by decide +kernel
theorem dX4_howHigh_45 : decode cX4_howHigh 45 = .ok (.istore_n 1, 1) := by decide +kernel
theorem dX4_howHigh_46 : decode cX4_howHigh 46 = .ok (.iinc 2 1, 3) := by decide +kernel
theorem dX4_howHigh_49 : decode cX4_howHigh 49 = .ok (.goto (-45), 3) := by decide +kernel
theorem dX4_howHigh_52 : decode cX4_howHigh 52 = .ok (.iload_n 1, 1) := by decide +kernel
theorem dX4_howHigh_53 : decode cX4_howHigh 53 = .ok (.ireturn, 1) := by decide +kernel
abbrev A4_howHigh (G : GG) (Q : Int32 → MM → Prop) := AW G E0 (MZ G (qI Q)) (WY yX4_howHigh cX4_howHigh 3 (some .int)) RX4 cX4_howHigh 3 (some .int) ({ frames := 5, cells := 0, slots := 0, locals := 115 } : Room) 0 0
def D4_howHigh_c44 (K4 : Int32 → Int32 → MM → Prop) (Q : Int32 → MM → Prop) (x2 : Int32) (s0 : Int32) (s1 : Int32) (M : MM) : Prop := (fun v6 : Int32 => (fun v7 : Int32 => K4 v6 v7 M) (x2 + (1 : Int32))) (s1 ||| s0)
def D4_howHigh_c4 (Q : Int32 → MM → Prop) : Nat → Int32 → Int32 → MM → Prop
  | 0, _, _, _ => False
  | n + 1, x1, x2, M => (((12 : Int32) ≤ x2 → Q x1 M) ∧ (¬ (12 : Int32) ≤ x2 → D0_becomes 6 1 M (fun (M2 : MM) => (fun M3 : MM => D4_floodsAsTold M3 (fun (r4 : Int32) (M5 : MM) => ((r4 = 0 → D4_howHigh_c44 (D4_howHigh_c4 Q n) Q x2 (0 : Int32) x1 M5) ∧ (¬ r4 = 0 → D4_howHigh_c44 (D4_howHigh_c4 Q n) Q x2 ((1 : Int32) <<< (x2 &&& 31)) x1 M5)))) (up M2 6 6 x2))))
def D4_howHigh (M : MM) (Q : Int32 → MM → Prop) : Prop := D4_howHigh_c4 Q FU (0 : Int32) (0 : Int32) M
set_option maxHeartbeats 4000000 in
set_option maxRecDepth 100000 in
theorem s4_howHigh_c44 {G : GG} {K4 : Int32 → Int32 → MM → Prop} {Q : Int32 → MM → Prop} (hK4 : ∀ (x1 : Int32) (x2 : Int32) (M : MM), K4 x1 x2 M → A4_howHigh G Q 4 [(0, .ref (gA G 0)), (1, .int x1), (2, .int x2)] [] M) : ∀ (x2 : Int32) (s0 : Int32) (s1 : Int32) (M : MM), D4_howHigh_c44 K4 Q x2 s0 s1 M → A4_howHigh G Q 44 [(0, .ref (gA G 0)), (2, .int x2)] [.int s0, .int s1] M := by
  intro x2 s0 s1 M h
  unfold D4_howHigh_c44 at h
  refine a_ior dX4_howHigh_44 ?_
  refine a_istore_n (i := 1) (L' := [(1, .int _), (0, .ref _), (2, .int _)]) dX4_howHigh_45 rfl (by decide) rfl ?_
  refine a_iinc (L' := [(2, .int _), (1, .int _), (0, .ref _)]) dX4_howHigh_46 2 rfl (show _ + Int32.ofInt (1 : Int) = _ + (1 : Int32) from rfl) (by decide) rfl ?_
  refine a_goto (tgt := 4) dX4_howHigh_49 (by decide) ?_
  refine a_sub [2, 1, 0] rfl ?_
  exact hK4 _ _ _ h
set_option maxHeartbeats 4000000 in
set_option maxRecDepth 100000 in
theorem s4_howHigh_c4 {G : GG} {Q : Int32 → MM → Prop} : ∀ (n : Nat) (x1 : Int32) (x2 : Int32) (M : MM), D4_howHigh_c4 Q n x1 x2 M → A4_howHigh G Q 4 [(0, .ref (gA G 0)), (1, .int x1), (2, .int x2)] [] M := by
  intro n
  induction n with
  | zero => intro x1 x2 M h; exact h.elim
  | succ n ih =>
    intro x1 x2 M h
    unfold D4_howHigh_c4 at h
    refine a_iload_n dX4_howHigh_4 2 rfl ?_
    refine a_bipush (v := 12) dX4_howHigh_5 (by decide) ?_
    refine a_icmp_ge (tgt := 52) dX4_howHigh_7 (by decide) (fun c => ?_) (fun c => ?_)
    · have h := h.1 c
      refine a_iload_n dX4_howHigh_52 1 rfl ?_
      exact a_iret dX4_howHigh_53 ⟨_, rfl, h⟩
    · have h := h.2 c
      refine a_aload_n dX4_howHigh_10 0 rfl ?_
      refine a_get2 dX4_howHigh_11 1 (by decide) (tbc _ kF_RX4_16) (fun w h => tbc _ (uW2 w h)) rfl ob_0 rfl ?_
      refine a_aload_n dX4_howHigh_14 0 rfl ?_
      refine a_get2 dX4_howHigh_15 0 (by decide) (tbc _ kF_RX4_10) (fun w h => tbc _ (uW2 w h)) rfl ob_0 rfl ?_
      refine a_callVv (n := 1) [.ref _] (C := RX0) (ci := 0) (qc := (RX0, TX0, 9)) (fsF := fl0 G _) ob_6.1 (fun _ => en0 ob_6.2) rfl rfl dX4_howHigh_18 (s0_becomes ob_6 ob_1 h) (gV tbc kM_RX4_65_X0_becomes kI_X0_becomes kS_X0_becomes kN_RX0 kC_X0_becomes) rfl (by decide +kernel) ⟨Nat.le_of_ble_eq_true rfl, Nat.le_of_ble_eq_true rfl⟩ rfl rfl (Nat.le_of_ble_eq_true rfl) ⟨Nat.le_refl 0, Nat.le_refl 0⟩ (fun M h => ?_)
      refine a_aload_n dX4_howHigh_21 0 rfl ?_
      refine a_get2 dX4_howHigh_22 1 (by decide) (tbc _ kF_RX4_16) (fun w h => tbc _ (uW2 w h)) rfl ob_0 rfl ?_
      refine a_iload_n dX4_howHigh_25 2 rfl ?_
      refine a_putN0 dX4_howHigh_26 6 (by decide) (fun _ h => h.2.2.1) (fun w h => tbc _ (uW0 w h)) rfl rfl rfl rfl ob_6 fs0_6 ?_
      refine a_iload_n dX4_howHigh_29 1 rfl ?_
      refine a_aload_n dX4_howHigh_30 0 rfl ?_
      refine a_callVi (n := 0) [] (C := RX4) (ci := 2) (qc := (RX4, TX4, 12)) (fsF := fl2 G _) ob_0.1 (fun _ => en2 ob_0.2) rfl rfl dX4_howHigh_31 (s4_floodsAsTold h) (gV tbc kM_RX4_238_X4_floodsAsTold kI_X4_floodsAsTold kS_X4_floodsAsTold kN_RX4 kC_X4_floodsAsTold) rfl (by decide +kernel) ⟨Nat.le_of_ble_eq_true rfl, Nat.le_of_ble_eq_true rfl⟩ rfl rfl (Nat.le_of_ble_eq_true rfl) ⟨Nat.le_refl 0, Nat.le_refl 0⟩ (fun r M h => ?_)
      refine a_if_eq (tgt := 43) dX4_howHigh_34 (by decide) (fun c => ?_) (fun c => ?_)
      · have h := h.1 c
        refine a_iconst (v := 0) dX4_howHigh_43 (by decide) ?_
        refine a_sub [0, 2] rfl ?_
        exact s4_howHigh_c44 ih _ _ _ _ h
      · have h := h.2 c
        refine a_iconst (v := 1) dX4_howHigh_37 (by decide) ?_
        refine a_iload_n dX4_howHigh_38 2 rfl ?_
        refine a_ishl dX4_howHigh_39 ?_
        refine a_goto (tgt := 44) dX4_howHigh_40 (by decide) ?_
        refine a_sub [0, 2] rfl ?_
        exact s4_howHigh_c44 ih _ _ _ _ h
set_option maxHeartbeats 4000000 in
set_option maxRecDepth 100000 in
theorem s4_howHigh {G : GG} {M : MM} {Q : Int32 → MM → Prop} (h : D4_howHigh M Q) : CM G yX4_howHigh (WY yX4_howHigh cX4_howHigh 3 (some .int)) 5 115 [.ref (gA G 0)] M (qI Q) := by
  refine CM.of (cc := cX4_howHigh) (nL := 3) (ret := (some .int)) (own := RX4) (by decide +kernel) rfl rfl (Nat.le_of_ble_eq_true rfl) ?_
  show A4_howHigh G Q 0 [(0, .ref (gA G 0))] [] M
  unfold D4_howHigh at h
  refine a_iconst (v := 0) dX4_howHigh_0 (by decide) ?_
  refine a_istore_n (i := 1) (L' := [(1, .int _), (0, .ref _)]) dX4_howHigh_1 rfl (by decide) rfl ?_
  refine a_iconst (v := 0) dX4_howHigh_2 (by decide) ?_
  refine a_istore_n (i := 2) (L' := [(2, .int _), (1, .int _), (0, .ref _)]) dX4_howHigh_3 rfl (by decide) rfl ?_
  refine a_sub [2, 1, 0] rfl ?_
  exact s4_howHigh_c4 _ _ _ _ h

/-! X4_image -/
theorem dX4_image_0 : decode cX4_image 0 = .ok (.aload_n 0, 1) := by decide +kernel
theorem dX4_image_1 : decode cX4_image 1 = .ok (.getfield 19, 3) := by decide +kernel
theorem dX4_image_4 : decode cX4_image 4 = .ok (.aload_n 0, 1) := by decide +kernel
theorem dX4_image_5 : decode cX4_image 5 = .ok (.getfield 10, 3) := by decide +kernel
theorem dX4_image_8 : decode cX4_image 8 = .ok (.invokevirtual 65, 3) := by decide +kernel
theorem dX4_image_11 : decode cX4_image 11 = .ok (.aload_n 0, 1) := by decide +kernel
theorem dX4_image_12 : decode cX4_image 12 = .ok (.iconst 1, 1) := by decide +kernel
theorem dX4_image_13 : decode cX4_image 13 = .ok (.putfield 296, 3) := by decide +kernel
theorem dX4_image_16 : decode cX4_image 16 = .ok (.aload_n 0, 1) := by decide +kernel
theorem dX4_image_17 : decode cX4_image 17 = .ok (.getfield 10, 3) := by decide +kernel
theorem dX4_image_20 : decode cX4_image 20 = .ok (.getfield 152, 3) := by decide +kernel
theorem dX4_image_23 : decode cX4_image 23 = .ok (.ireturn, 1) := by decide +kernel
abbrev A4_image (G : GG) (Q : Int32 → MM → Prop) := AW G E0 (MZ G (qI Q)) (WY yX4_image cX4_image 1 (some .int)) RX4 cX4_image 1 (some .int) ({ frames := 1, cells := 0, slots := 0, locals := 22 } : Room) 0 0
def D4_image (M : MM) (Q : Int32 → MM → Prop) : Prop := D0_becomes 11 1 M (fun (M2 : MM) => (fun M3 : MM => Q (M3 1 6) M3) (up M2 0 11 (1 : Int32)))
set_option maxHeartbeats 4000000 in
set_option maxRecDepth 100000 in
theorem s4_image {G : GG} {M : MM} {Q : Int32 → MM → Prop} (h : D4_image M Q) : CM G yX4_image (WY yX4_image cX4_image 1 (some .int)) 1 22 [.ref (gA G 0)] M (qI Q) := by
  refine CM.of (cc := cX4_image) (nL := 1) (ret := (some .int)) (own := RX4) (by decide +kernel) rfl rfl (Nat.le_of_ble_eq_true rfl) ?_
  show A4_image G Q 0 [(0, .ref (gA G 0))] [] M
  unfold D4_image at h
  refine a_aload_n dX4_image_0 0 rfl ?_
  refine a_get2 dX4_image_1 2 (by decide) (tbc _ kF_RX4_19) (fun w h => tbc _ (uW2 w h)) rfl ob_0 rfl ?_
  refine a_aload_n dX4_image_4 0 rfl ?_
  refine a_get2 dX4_image_5 0 (by decide) (tbc _ kF_RX4_10) (fun w h => tbc _ (uW2 w h)) rfl ob_0 rfl ?_
  refine a_callVv (n := 1) [.ref _] (C := RX0) (ci := 0) (qc := (RX0, TX0, 9)) (fsF := fl0 G _) ob_11.1 (fun _ => en0 ob_11.2) rfl rfl dX4_image_8 (s0_becomes ob_11 ob_1 h) (gV tbc kM_RX4_65_X0_becomes kI_X0_becomes kS_X0_becomes kN_RX0 kC_X0_becomes) rfl (by decide +kernel) ⟨Nat.le_of_ble_eq_true rfl, Nat.le_of_ble_eq_true rfl⟩ rfl rfl (Nat.le_of_ble_eq_true rfl) ⟨Nat.le_refl 0, Nat.le_refl 0⟩ (fun M h => ?_)
  refine a_aload_n dX4_image_11 0 rfl ?_
  refine a_iconst (v := 1) dX4_image_12 (by decide) ?_
  refine a_put2 dX4_image_13 11 (by decide) (tbc _ kF_RX4_296) (fun w h => tbc _ (uW2 w h)) rfl rfl rfl rfl ob_0 fs2_11 ?_
  refine a_aload_n dX4_image_16 0 rfl ?_
  refine a_get2 dX4_image_17 0 (by decide) (tbc _ kF_RX4_10) (fun w h => tbc _ (uW2 w h)) rfl ob_0 rfl ?_
  refine a_getN0 dX4_image_20 6 (by decide) (fun _ h => h.2.2.1) (fun w h => tbc _ (uW0 w h)) rfl ob_1 rfl ?_
  exact a_iret dX4_image_23 ⟨_, rfl, h⟩

/-! X4_judge -/
theorem dX4_judge_0 : decode cX4_judge 0 = .ok (.bipush (-9), 2) := by decide +kernel
theorem dX4_judge_2 : decode cX4_judge 2 = .ok (.istore_n 1, 1) := by decide +kernel
theorem dX4_judge_3 : decode cX4_judge 3 = .ok (.iconst 0, 1) := by decide +kernel
theorem dX4_judge_4 : decode cX4_judge 4 = .ok (.istore_n 2, 1) := by decide +kernel
theorem dX4_judge_5 : decode cX4_judge 5 = .ok (.iload_n 2, 1) := by decide +kernel
theorem dX4_judge_6 : decode cX4_judge 6 = .ok (.aload_n 0, 1) := by decide +kernel
theorem dX4_judge_7 : decode cX4_judge 7 = .ok (.getfield 290, 3) := by decide +kernel
theorem dX4_judge_10 : decode cX4_judge 10 = .ok (.if_icmp .ge 51, 3) := by decide +kernel
theorem dX4_judge_13 : decode cX4_judge 13 = .ok (.iload_n 2, 1) := by decide +kernel
theorem dX4_judge_14 : decode cX4_judge 14 = .ok (.bipush 12, 2) := by decide +kernel
theorem dX4_judge_16 : decode cX4_judge 16 = .ok (.if_icmp .ge 45, 3) := by decide +kernel
theorem dX4_judge_19 : decode cX4_judge 19 = .ok (.iload_n 1, 1) := by decide +kernel
theorem dX4_judge_20 : decode cX4_judge 20 = .ok (.bipush (-9), 2) := by decide +kernel
theorem dX4_judge_22 : decode cX4_judge 22 = .ok (.if_icmp .ne 39, 3) := by decide +kernel
theorem dX4_judge_25 : decode cX4_judge 25 = .ok (.aload_n 0, 1) := by decide +kernel
theorem dX4_judge_26 : decode cX4_judge 26 = .ok (.getfield 10, 3) := by decide +kernel
theorem dX4_judge_29 : decode cX4_judge 29 = .ok (.iload_n 2, 1) := by decide +kernel
theorem dX4_judge_30 : decode cX4_judge 30 = .ok (.invokevirtual 80, 3) := by decide +kernel
theorem dX4_judge_33 : decode cX4_judge 33 = .ok (.ifCond .eq 20, 3) := by decide +kernel
theorem dX4_judge_36 : decode cX4_judge 36 = .ok (.aload_n 0, 1) := by decide +kernel
theorem dX4_judge_37 : decode cX4_judge 37 = .ok (.getfield 10, 3) := by decide +kernel
theorem dX4_judge_40 : decode cX4_judge 40 = .ok (.iload_n 2, 1) := by decide +kernel
theorem dX4_judge_41 : decode cX4_judge 41 = .ok (.invokevirtual 102, 3) := by decide +kernel
theorem dX4_judge_44 : decode cX4_judge 44 = .ok (.aload_n 0, 1) := by decide +kernel
theorem dX4_judge_45 : decode cX4_judge 45 = .ok (.getfield 33, 3) := by decide +kernel
theorem dX4_judge_48 : decode cX4_judge 48 = .ok (.iload_n 2, 1) := by decide +kernel
theorem dX4_judge_49 : decode cX4_judge 49 = .ok (.iaload, 1) := by decide +kernel
theorem dX4_judge_50 : decode cX4_judge 50 = .ok (.if_icmp .eq 5, 3) := by decide +kernel
theorem dX4_judge_53 : decode cX4_judge 53 = .ok (.iload_n 2, 1) := by decide +kernel
theorem dX4_judge_54 : decode cX4_judge 54 = .ok (.istore_n 1, 1) := by decide +kernel
theorem dX4_judge_55 : decode cX4_judge 55 = .ok (.iinc 2 1, 3) := by decide +kernel
theorem dX4_judge_58 : decode cX4_judge 58 = .ok (.goto (-53), 3) := by decide +kernel
theorem dX4_judge_61 : decode cX4_judge 61 = .ok (.aload_n 0, 1) := by decide +kernel
theorem dX4_judge_62 : decode cX4_judge 62 = .ok (.iconst 0, 1) := by decide +kernel
theorem dX4_judge_63 : decode cX4_judge 63 = .ok (.putfield 290, 3) := by decide +kernel
theorem dX4_judge_66 : decode cX4_judge 66 = .ok (.iload_n 1, 1) := by decide +kernel
theorem dX4_judge_67 : decode cX4_judge 67 = .ok (.ireturn, 1) := by decide +kernel
abbrev A4_judge (G : GG) (Q : Int32 → MM → Prop) := AW G E0 (MZ G (qI Q)) (WY yX4_judge cX4_judge 3 (some .int)) RX4 cX4_judge 3 (some .int) ({ frames := 3, cells := 0, slots := 0, locals := 63 } : Room) 0 0
def D4_judge_c55 (K5 : Int32 → Int32 → MM → Prop) (Q : Int32 → MM → Prop) (x1 : Int32) (x2 : Int32) (M : MM) : Prop := (fun v8 : Int32 => K5 x1 v8 M) (x2 + (1 : Int32))
def D4_judge_c53 (K5 : Int32 → Int32 → MM → Prop) (Q : Int32 → MM → Prop) (x2 : Int32) (M : MM) : Prop := D4_judge_c55 K5 Q x2 x2 M
def D4_judge_c5 (Q : Int32 → MM → Prop) : Nat → Int32 → Int32 → MM → Prop
  | 0, _, _, _ => False
  | n + 1, x1, x2, M => (((M 0 8) ≤ x2 → (fun M1 : MM => Q x1 M1) (up M 0 8 (0 : Int32))) ∧ (¬ (M 0 8) ≤ x2 → (((12 : Int32) ≤ x2 → (fun M2 : MM => Q x1 M2) (up M 0 8 (0 : Int32))) ∧ (¬ (12 : Int32) ≤ x2 → ((x1 ≠ (-9 : Int32) → (fun M3 : MM => Q x1 M3) (up M 0 8 (0 : Int32))) ∧ (x1 = (-9 : Int32) → D0_knows 1 x2 M (fun (r4 : Int32) (M5 : MM) => ((r4 = 0 → D4_judge_c53 (D4_judge_c5 Q n) Q x2 M5) ∧ (¬ r4 = 0 → D0_rateOf 1 x2 M5 (fun (r6 : Int32) (M7 : MM) => ib 59 x2 ∧ ((r6 = (M7 59 (ix x2)) → D4_judge_c55 (D4_judge_c5 Q n) Q x1 x2 M7) ∧ (¬ r6 = (M7 59 (ix x2)) → D4_judge_c53 (D4_judge_c5 Q n) Q x2 M7))))))))))))
def D4_judge (M : MM) (Q : Int32 → MM → Prop) : Prop := D4_judge_c5 Q FU (-9 : Int32) (0 : Int32) M
set_option maxHeartbeats 4000000 in
set_option maxRecDepth 100000 in
theorem s4_judge_c55 {G : GG} {K5 : Int32 → Int32 → MM → Prop} {Q : Int32 → MM → Prop} (hK5 : ∀ (x1 : Int32) (x2 : Int32) (M : MM), K5 x1 x2 M → A4_judge G Q 5 [(0, .ref (gA G 0)), (1, .int x1), (2, .int x2)] [] M) : ∀ (x1 : Int32) (x2 : Int32) (M : MM), D4_judge_c55 K5 Q x1 x2 M → A4_judge G Q 55 [(0, .ref (gA G 0)), (1, .int x1), (2, .int x2)] [] M := by
  intro x1 x2 M h
  unfold D4_judge_c55 at h
  refine a_iinc (L' := [(2, .int _), (0, .ref _), (1, .int _)]) dX4_judge_55 2 rfl (show _ + Int32.ofInt (1 : Int) = _ + (1 : Int32) from rfl) (by decide) rfl ?_
  refine a_goto (tgt := 5) dX4_judge_58 (by decide) ?_
  refine a_sub [1, 2, 0] rfl ?_
  exact hK5 _ _ _ h
set_option maxHeartbeats 4000000 in
set_option maxRecDepth 100000 in
theorem s4_judge_c53 {G : GG} {K5 : Int32 → Int32 → MM → Prop} {Q : Int32 → MM → Prop} (hK5 : ∀ (x1 : Int32) (x2 : Int32) (M : MM), K5 x1 x2 M → A4_judge G Q 5 [(0, .ref (gA G 0)), (1, .int x1), (2, .int x2)] [] M) : ∀ (x2 : Int32) (M : MM), D4_judge_c53 K5 Q x2 M → A4_judge G Q 53 [(0, .ref (gA G 0)), (2, .int x2)] [] M := by
  intro x2 M h
  unfold D4_judge_c53 at h
  refine a_iload_n dX4_judge_53 1 rfl ?_
  refine a_istore_n (i := 1) (L' := [(1, .int _), (0, .ref _), (2, .int _)]) dX4_judge_54 rfl (by decide) rfl ?_
  refine a_sub [1, 0, 2] rfl ?_
  exact s4_judge_c55 hK5 _ _ _ h
set_option maxHeartbeats 4000000 in
set_option maxRecDepth 100000 in
theorem s4_judge_c5 {G : GG} {Q : Int32 → MM → Prop} : ∀ (n : Nat) (x1 : Int32) (x2 : Int32) (M : MM), D4_judge_c5 Q n x1 x2 M → A4_judge G Q 5 [(0, .ref (gA G 0)), (1, .int x1), (2, .int x2)] [] M := by
  intro n
  induction n with
  | zero => intro x1 x2 M h; exact h.elim
  | succ n ih =>
    intro x1 x2 M h
    unfold D4_judge_c5 at h
    refine a_iload_n dX4_judge_5 2 rfl ?_
    refine a_aload_n dX4_judge_6 0 rfl ?_
    refine a_get2 dX4_judge_7 8 (by decide) (tbc _ kF_RX4_290) (fun w h => tbc _ (uW2 w h)) rfl ob_0 rfl ?_
    refine a_icmp_ge (tgt := 61) dX4_judge_10 (by decide) (fun c => ?_) (fun c => ?_)
    · have h := h.1 c
      refine a_aload_n dX4_judge_61 0 rfl ?_
      refine a_iconst (v := 0) dX4_judge_62 (by decide) ?_
      refine a_put2 dX4_judge_63 8 (by decide) (tbc _ kF_RX4_290) (fun w h => tbc _ (uW2 w h)) rfl rfl rfl rfl ob_0 fs2_8 ?_
      refine a_iload_n dX4_judge_66 1 rfl ?_
      exact a_iret dX4_judge_67 ⟨_, rfl, h⟩
    · have h := h.2 c
      refine a_iload_n dX4_judge_13 2 rfl ?_
      refine a_bipush (v := 12) dX4_judge_14 (by decide) ?_
      refine a_icmp_ge (tgt := 61) dX4_judge_16 (by decide) (fun c => ?_) (fun c => ?_)
      · have h := h.1 c
        refine a_aload_n dX4_judge_61 0 rfl ?_
        refine a_iconst (v := 0) dX4_judge_62 (by decide) ?_
        refine a_put2 dX4_judge_63 8 (by decide) (tbc _ kF_RX4_290) (fun w h => tbc _ (uW2 w h)) rfl rfl rfl rfl ob_0 fs2_8 ?_
        refine a_iload_n dX4_judge_66 1 rfl ?_
        exact a_iret dX4_judge_67 ⟨_, rfl, h⟩
      · have h := h.2 c
        refine a_iload_n dX4_judge_19 1 rfl ?_
        refine a_bipush (v := -9) dX4_judge_20 (by decide) ?_
        refine a_icmp_ne (tgt := 61) dX4_judge_22 (by decide) (fun c => ?_) (fun c => ?_)
        · have h := h.1 c
          refine a_aload_n dX4_judge_61 0 rfl ?_
          refine a_iconst (v := 0) dX4_judge_62 (by decide) ?_
          refine a_put2 dX4_judge_63 8 (by decide) (tbc _ kF_RX4_290) (fun w h => tbc _ (uW2 w h)) rfl rfl rfl rfl ob_0 fs2_8 ?_
          refine a_iload_n dX4_judge_66 1 rfl ?_
          exact a_iret dX4_judge_67 ⟨_, rfl, h⟩
        · have h := h.2 c
          refine a_aload_n dX4_judge_25 0 rfl ?_
          refine a_get2 dX4_judge_26 0 (by decide) (tbc _ kF_RX4_10) (fun w h => tbc _ (uW2 w h)) rfl ob_0 rfl ?_
          refine a_iload_n dX4_judge_29 2 rfl ?_
          refine a_callVi (n := 1) [.int _] (C := RX0) (ci := 0) (qc := (RX0, TX0, 9)) (fsF := fl0 G _) ob_1.1 (fun _ => en0 ob_1.2) rfl rfl dX4_judge_30 (s0_knows ob_1 h) (gV tbc kM_RX4_80_X0_knows kI_X0_knows kS_X0_knows kN_RX0 kC_X0_knows) rfl (by decide +kernel) ⟨Nat.le_of_ble_eq_true rfl, Nat.le_of_ble_eq_true rfl⟩ rfl rfl (Nat.le_of_ble_eq_true rfl) ⟨Nat.le_refl 0, Nat.le_refl 0⟩ (fun r M h => ?_)
          refine a_if_eq (tgt := 53) dX4_judge_33 (by decide) (fun c => ?_) (fun c => ?_)
          · have h := h.1 c
            refine a_sub [0, 2] rfl ?_
            exact s4_judge_c53 ih _ _ h
          · have h := h.2 c
            refine a_aload_n dX4_judge_36 0 rfl ?_
            refine a_get2 dX4_judge_37 0 (by decide) (tbc _ kF_RX4_10) (fun w h => tbc _ (uW2 w h)) rfl ob_0 rfl ?_
            refine a_iload_n dX4_judge_40 2 rfl ?_
            refine a_callVi (n := 1) [.int _] (C := RX0) (ci := 0) (qc := (RX0, TX0, 9)) (fsF := fl0 G _) ob_1.1 (fun _ => en0 ob_1.2) rfl rfl dX4_judge_41 (s0_rateOf ob_1 h) (gV tbc kM_RX4_102_X0_rateOf kI_X0_rateOf kS_X0_rateOf kN_RX0 kC_X0_rateOf) rfl (by decide +kernel) ⟨Nat.le_of_ble_eq_true rfl, Nat.le_of_ble_eq_true rfl⟩ rfl rfl (Nat.le_of_ble_eq_true rfl) ⟨Nat.le_refl 0, Nat.le_refl 0⟩ (fun r M h => ?_)
            refine a_aload_n dX4_judge_44 0 rfl ?_
            refine a_get2 dX4_judge_45 5 (by decide) (tbc _ kF_RX4_33) (fun w h => tbc _ (uW2 w h)) rfl ob_0 rfl ?_
            refine a_iload_n dX4_judge_48 2 rfl ?_
            refine a_iald dX4_judge_49 h.1 ?_
            have h := h.2
            refine a_icmp_eq (tgt := 55) dX4_judge_50 (by decide) (fun c => ?_) (fun c => ?_)
            · have h := h.1 c
              refine a_sub [0, 1, 2] rfl ?_
              exact s4_judge_c55 ih _ _ _ h
            · have h := h.2 c
              refine a_sub [0, 2] rfl ?_
              exact s4_judge_c53 ih _ _ h
set_option maxHeartbeats 4000000 in
set_option maxRecDepth 100000 in
theorem s4_judge {G : GG} {M : MM} {Q : Int32 → MM → Prop} (h : D4_judge M Q) : CM G yX4_judge (WY yX4_judge cX4_judge 3 (some .int)) 3 63 [.ref (gA G 0)] M (qI Q) := by
  refine CM.of (cc := cX4_judge) (nL := 3) (ret := (some .int)) (own := RX4) (by decide +kernel) rfl rfl (Nat.le_of_ble_eq_true rfl) ?_
  show A4_judge G Q 0 [(0, .ref (gA G 0))] [] M
  unfold D4_judge at h
  refine a_bipush (v := -9) dX4_judge_0 (by decide) ?_
  refine a_istore_n (i := 1) (L' := [(1, .int _), (0, .ref _)]) dX4_judge_2 rfl (by decide) rfl ?_
  refine a_iconst (v := 0) dX4_judge_3 (by decide) ?_
  refine a_istore_n (i := 2) (L' := [(2, .int _), (1, .int _), (0, .ref _)]) dX4_judge_4 rfl (by decide) rfl ?_
  refine a_sub [2, 1, 0] rfl ?_
  exact s4_judge_c5 _ _ _ _ h

/-! X4_oneKeeper -/
theorem dX4_oneKeeper_0 : decode cX4_oneKeeper 0 = .ok (.iconst 0, 1) := by decide +kernel
theorem dX4_oneKeeper_1 : decode cX4_oneKeeper 1 = .ok (.istore_n 3, 1) := by decide +kernel
theorem dX4_oneKeeper_2 : decode cX4_oneKeeper 2 = .ok (.iload_n 3, 1) := by decide +kernel
theorem dX4_oneKeeper_3 : decode cX4_oneKeeper 3 = .ok (.bipush 25, 2) := by decide +kernel
theorem dX4_oneKeeper_5 : decode cX4_oneKeeper 5 = .ok (.if_icmp .ge 34, 3) := by decide +kernel
theorem dX4_oneKeeper_8 : decode cX4_oneKeeper 8 = .ok (.aload_n 0, 1) := by decide +kernel
theorem dX4_oneKeeper_9 : decode cX4_oneKeeper 9 = .ok (.getfield 10, 3) := by decide +kernel
theorem dX4_oneKeeper_12 : decode cX4_oneKeeper 12 = .ok (.iload_n 3, 1) := by decide +kernel
theorem dX4_oneKeeper_13 : decode cX4_oneKeeper 13 = .ok (.invokevirtual 117, 3) := by decide +kernel
theorem dX4_oneKeeper_16 : decode cX4_oneKeeper 16 = .ok (.ifCond .ge 17, 3) := by decide +kernel
theorem dX4_oneKeeper_19 : decode cX4_oneKeeper 19 = .ok (.aload_n 0, 1) := by decide +kernel
theorem dX4_oneKeeper_20 : decode cX4_oneKeeper 20 = .ok (.iload_n 1, 1) := by decide +kernel
theorem dX4_oneKeeper_21 : decode cX4_oneKeeper 21 = .ok (.iload_n 2, 1) := by decide +kernel
theorem dX4_oneKeeper_22 : decode cX4_oneKeeper 22 = .ok (.iload_n 3, 1) := by decide +kernel
theorem dX4_oneKeeper_23 : decode cX4_oneKeeper 23 = .ok (.bipush (-9), 2) := by decide +kernel
theorem dX4_oneKeeper_25 : decode cX4_oneKeeper 25 = .ok (.invokevirtual 196, 3) := by decide +kernel
theorem dX4_oneKeeper_28 : decode cX4_oneKeeper 28 = .ok (.ifCond .eq 5, 3) := by decide +kernel
theorem dX4_oneKeeper_31 : decode cX4_oneKeeper 31 = .ok (.iload_n 3, 1) := by decide +kernel
theorem dX4_oneKeeper_32 : decode cX4_oneKeeper 32 = .ok (.ireturn, 1) := by decide +kernel
theorem dX4_oneKeeper_33 : decode cX4_oneKeeper 33 = .ok (.iinc 3 1, 3) := by decide +kernel
theorem dX4_oneKeeper_36 : decode cX4_oneKeeper 36 = .ok (.goto (-34), 3) := by decide +kernel
theorem dX4_oneKeeper_39 : decode cX4_oneKeeper 39 = .ok (.bipush (-9), 2) := by decide +kernel
theorem dX4_oneKeeper_41 : decode cX4_oneKeeper 41 = .ok (.ireturn, 1) := by decide +kernel
abbrev A4_oneKeeper (G : GG) (Q : Int32 → MM → Prop) := AW G E0 (MZ G (qI Q)) (WY yX4_oneKeeper cX4_oneKeeper 4 (some .int)) RX4 cX4_oneKeeper 4 (some .int) ({ frames := 5, cells := 0, slots := 0, locals := 119 } : Room) 0 0
def D4_oneKeeper_c33 (K2 : Int32 → Int32 → Int32 → MM → Prop) (Q : Int32 → MM → Prop) (x1 : Int32) (x2 : Int32) (x3 : Int32) (M : MM) : Prop := (fun v5 : Int32 => K2 x1 x2 v5 M) (x3 + (1 : Int32))
def D4_oneKeeper_c2 (Q : Int32 → MM → Prop) : Nat → Int32 → Int32 → Int32 → MM → Prop
  | 0, _, _, _, _ => False
  | n + 1, x1, x2, x3, M => (((25 : Int32) ≤ x3 → Q (-9 : Int32) M) ∧ (¬ (25 : Int32) ≤ x3 → D0_workIn 1 x3 M (fun (r1 : Int32) (M2 : MM) => ((0 ≤ r1 → D4_oneKeeper_c33 (D4_oneKeeper_c2 Q n) Q x1 x2 x3 M2) ∧ (¬ 0 ≤ r1 → D4_staysDry x1 x2 x3 (-9 : Int32) M2 (fun (r3 : Int32) (M4 : MM) => ((r3 = 0 → D4_oneKeeper_c33 (D4_oneKeeper_c2 Q n) Q x1 x2 x3 M4) ∧ (¬ r3 = 0 → Q x3 M4))))))))
def D4_oneKeeper (x1 : Int32) (x2 : Int32) (M : MM) (Q : Int32 → MM → Prop) : Prop := D4_oneKeeper_c2 Q FU x1 x2 (0 : Int32) M
set_option maxHeartbeats 4000000 in
set_option maxRecDepth 100000 in
theorem s4_oneKeeper_c33 {G : GG} {K2 : Int32 → Int32 → Int32 → MM → Prop} {Q : Int32 → MM → Prop} (hK2 : ∀ (x1 : Int32) (x2 : Int32) (x3 : Int32) (M : MM), K2 x1 x2 x3 M → A4_oneKeeper G Q 2 [(0, .ref (gA G 0)), (1, .int x1), (2, .int x2), (3, .int x3)] [] M) : ∀ (x1 : Int32) (x2 : Int32) (x3 : Int32) (M : MM), D4_oneKeeper_c33 K2 Q x1 x2 x3 M → A4_oneKeeper G Q 33 [(0, .ref (gA G 0)), (1, .int x1), (2, .int x2), (3, .int x3)] [] M := by
  intro x1 x2 x3 M h
  unfold D4_oneKeeper_c33 at h
  refine a_iinc (L' := [(3, .int _), (0, .ref _), (1, .int _), (2, .int _)]) dX4_oneKeeper_33 3 rfl (show _ + Int32.ofInt (1 : Int) = _ + (1 : Int32) from rfl) (by decide) rfl ?_
  refine a_goto (tgt := 2) dX4_oneKeeper_36 (by decide) ?_
  refine a_sub [1, 2, 3, 0] rfl ?_
  exact hK2 _ _ _ _ h
set_option maxHeartbeats 4000000 in
set_option maxRecDepth 100000 in
theorem s4_oneKeeper_c2 {G : GG} {Q : Int32 → MM → Prop} : ∀ (n : Nat) (x1 : Int32) (x2 : Int32) (x3 : Int32) (M : MM), D4_oneKeeper_c2 Q n x1 x2 x3 M → A4_oneKeeper G Q 2 [(0, .ref (gA G 0)), (1, .int x1), (2, .int x2), (3, .int x3)] [] M := by
  intro n
  induction n with
  | zero => intro x1 x2 x3 M h; exact h.elim
  | succ n ih =>
    intro x1 x2 x3 M h
    unfold D4_oneKeeper_c2 at h
    refine a_iload_n dX4_oneKeeper_2 3 rfl ?_
    refine a_bipush (v := 25) dX4_oneKeeper_3 (by decide) ?_
    refine a_icmp_ge (tgt := 39) dX4_oneKeeper_5 (by decide) (fun c => ?_) (fun c => ?_)
    · have h := h.1 c
      refine a_bipush (v := -9) dX4_oneKeeper_39 (by decide) ?_
      exact a_iret dX4_oneKeeper_41 ⟨_, rfl, h⟩
    · have h := h.2 c
      refine a_aload_n dX4_oneKeeper_8 0 rfl ?_
      refine a_get2 dX4_oneKeeper_9 0 (by decide) (tbc _ kF_RX4_10) (fun w h => tbc _ (uW2 w h)) rfl ob_0 rfl ?_
      refine a_iload_n dX4_oneKeeper_12 3 rfl ?_
      refine a_callVi (n := 1) [.int _] (C := RX0) (ci := 0) (qc := (RX0, TX0, 9)) (fsF := fl0 G _) ob_1.1 (fun _ => en0 ob_1.2) rfl rfl dX4_oneKeeper_13 (s0_workIn ob_1 h) (gV tbc kM_RX4_117_X0_workIn kI_X0_workIn kS_X0_workIn kN_RX0 kC_X0_workIn) rfl (by decide +kernel) ⟨Nat.le_of_ble_eq_true rfl, Nat.le_of_ble_eq_true rfl⟩ rfl rfl (Nat.le_of_ble_eq_true rfl) ⟨Nat.le_refl 0, Nat.le_refl 0⟩ (fun r M h => ?_)
      refine a_if_ge (tgt := 33) dX4_oneKeeper_16 (by decide) (fun c => ?_) (fun c => ?_)
      · have h := h.1 c
        refine a_sub [0, 1, 2, 3] rfl ?_
        exact s4_oneKeeper_c33 ih _ _ _ _ h
      · have h := h.2 c
        refine a_aload_n dX4_oneKeeper_19 0 rfl ?_
        refine a_iload_n dX4_oneKeeper_20 1 rfl ?_
        refine a_iload_n dX4_oneKeeper_21 2 rfl ?_
        refine a_iload_n dX4_oneKeeper_22 3 rfl ?_
        refine a_bipush (v := -9) dX4_oneKeeper_23 (by decide) ?_
        refine a_callVi (n := 4) [.int _, .int _, .int _, .int _] (C := RX4) (ci := 2) (qc := (RX4, TX4, 12)) (fsF := fl2 G _) ob_0.1 (fun _ => en2 ob_0.2) rfl rfl dX4_oneKeeper_25 (s4_staysDry h) (gV tbc kM_RX4_196_X4_staysDry kI_X4_staysDry kS_X4_staysDry kN_RX4 kC_X4_staysDry) rfl (by decide +kernel) ⟨Nat.le_of_ble_eq_true rfl, Nat.le_of_ble_eq_true rfl⟩ rfl rfl (Nat.le_of_ble_eq_true rfl) ⟨Nat.le_refl 0, Nat.le_refl 0⟩ (fun r M h => ?_)
        refine a_if_eq (tgt := 33) dX4_oneKeeper_28 (by decide) (fun c => ?_) (fun c => ?_)
        · have h := h.1 c
          refine a_sub [0, 1, 2, 3] rfl ?_
          exact s4_oneKeeper_c33 ih _ _ _ _ h
        · have h := h.2 c
          refine a_iload_n dX4_oneKeeper_31 3 rfl ?_
          exact a_iret dX4_oneKeeper_32 ⟨_, rfl, h⟩
set_option maxHeartbeats 4000000 in
set_option maxRecDepth 100000 in
theorem s4_oneKeeper {G : GG} {x1 : Int32} {x2 : Int32} {M : MM} {Q : Int32 → MM → Prop} (h : D4_oneKeeper x1 x2 M Q) : CM G yX4_oneKeeper (WY yX4_oneKeeper cX4_oneKeeper 4 (some .int)) 5 119 [.ref (gA G 0), .int x1, .int x2] M (qI Q) := by
  refine CM.of (cc := cX4_oneKeeper) (nL := 4) (ret := (some .int)) (own := RX4) (by decide +kernel) rfl rfl (Nat.le_of_ble_eq_true rfl) ?_
  show A4_oneKeeper G Q 0 [(0, .ref (gA G 0)), (1, .int x1), (2, .int x2)] [] M
  unfold D4_oneKeeper at h
  refine a_iconst (v := 0) dX4_oneKeeper_0 (by decide) ?_
  refine a_istore_n (i := 3) (L' := [(3, .int _), (0, .ref _), (1, .int _), (2, .int _)]) dX4_oneKeeper_1 rfl (by decide) rfl ?_
  refine a_sub [1, 2, 3, 0] rfl ?_
  exact s4_oneKeeper_c2 _ _ _ _ _ h

/-! X4_keep -/
theorem dX4_keep_0 : decode cX4_keep 0 = .ok (.iload_n 1, 1) := by decide +kernel
theorem dX4_keep_1 : decode cX4_keep 1 = .ok (.invokestatic 114, 3) := by decide +kernel
theorem dX4_keep_4 : decode cX4_keep 4 = .ok (.ifCond .ne 9, 3) := by decide +kernel
theorem dX4_keep_7 : decode cX4_keep 7 = .ok (.aload_n 0, 1) := by decide +kernel
theorem dX4_keep_8 : decode cX4_keep 8 = .ok (.iconst (-1), 1) := by decide +kernel
theorem dX4_keep_9 : decode cX4_keep 9 = .ok (.invokevirtual 43, 3) := by decide +kernel
theorem dX4_keep_12 : decode cX4_keep 12 = .ok (.ireturn, 1) := by decide +kernel
theorem dX4_keep_13 : decode cX4_keep 13 = .ok (.iload_n 2, 1) := by decide +kernel
theorem dX4_keep_14 : decode cX4_keep 14 = .ok (.iconst 1, 1) := by decide +kernel
theorem dX4_keep_15 : decode cX4_keep 15 = .ok (.bipush 24, 2) := by decide +kernel
theorem dX4_keep_17 : decode cX4_keep 17 = .ok (.invokestatic 168, 3) := by decide +kernel
theorem dX4_keep_20 : decode cX4_keep 20 = .ok (.istore 4, 2) := by decide +kernel
theorem dX4_keep_22 : decode cX4_keep 22 = .ok (.iload 4, 2) := by decide +kernel
theorem dX4_keep_24 : decode cX4_keep 24 = .ok (.ifCond .eq 10, 3) := by decide +kernel
theorem dX4_keep_27 : decode cX4_keep 27 = .ok (.aload_n 0, 1) := by decide +kernel
theorem dX4_keep_28 : decode cX4_keep 28 = .ok (.iload 4, 2) := by decide +kernel
theorem dX4_keep_30 : decode cX4_keep 30 = .ok (.invokevirtual 43, 3) := by decide +kernel
theorem dX4_keep_33 : decode cX4_keep 33 = .ok (.ireturn, 1) := by decide +kernel
theorem dX4_keep_34 : decode cX4_keep 34 = .ok (.iload_n 3, 1) := by decide +kernel
theorem dX4_keep_35 : decode cX4_keep 35 = .ok (.ifCond .lt 8, 3) := by decide +kernel
theorem dX4_keep_38 : decode cX4_keep 38 = .ok (.iload_n 3, 1) := by decide +kernel
theorem dX4_keep_39 : decode cX4_keep 39 = .ok (.iconst 1, 1) := by decide +kernel
theorem dX4_keep_40 : decode cX4_keep 40 = .ok (.if_icmp .le 10, 3) := by decide +kernel
theorem dX4_keep_43 : decode cX4_keep 43 = .ok (.aload_n 0, 1) := by decide +kernel
theorem dX4_keep_44 : decode cX4_keep 44 = .ok (.bipush (-2), 2) := by decide +kernel
theorem dX4_keep_46 : decode cX4_keep 46 = .ok (.invokevirtual 43, 3) := by decide +kernel
theorem dX4_keep_49 : decode cX4_keep 49 = .ok (.ireturn, 1) := by decide +kernel
theorem dX4_keep_50 : decode cX4_keep 50 = .ok (.aload_n 0, 1) := by decide +kernel
theorem dX4_keep_51 : decode cX4_keep 51 = .ok (.iload_n 1, 1) := by decide +kernel
theorem dX4_keep_52 : decode cX4_keep 52 = .ok (.iload_n 2, 1) := by decide +kernel
theorem dX4_keep_53 : decode cX4_keep 53 = .ok (.bipush (-9), 2) := by decide +kernel
theorem dX4_keep_55 : decode cX4_keep 55 = .ok (.bipush (-9), 2) := by decide +kernel
theorem dX4_keep_57 : decode cX4_keep 57 = .ok (.invokevirtual 196, 3) := by decide +kernel
theorem dX4_keep_60 : decode cX4_keep 60 = .ok (.ifCond .eq 14, 3) := by decide +kernel
theorem dX4_keep_63 : decode cX4_keep 63 = .ok (.iload_n 3, 1) := by decide +kernel
theorem dX4_keep_64 : decode cX4_keep 64 = .ok (.ifCond .ne 7, 3) := by decide +kernel
theorem dX4_keep_67 : decode cX4_keep 67 = .ok (.iconst 0, 1) := by decide +kernel
theorem dX4_keep_68 : decode cX4_keep 68 = .ok (.goto 5, 3) := by decide +kernel
theorem dX4_keep_71 : decode cX4_keep 71 = .ok (.bipush (-9), 2) := by decide +kernel
theorem dX4_keep_73 : decode cX4_keep 73 = .ok (.ireturn, 1) := by decide +kernel
theorem dX4_keep_74 : decode cX4_keep 74 = .ok (.aload_n 0, 1) := by decide +kernel
theorem dX4_keep_75 : decode cX4_keep 75 = .ok (.iload_n 1, 1) := by decide +kernel
theorem dX4_keep_76 : decode cX4_keep 76 = .ok (.iload_n 2, 1) := by decide +kernel
theorem dX4_keep_77 : decode cX4_keep 77 = .ok (.invokevirtual 200, 3) := by decide +kernel
theorem dX4_keep_80 : decode cX4_keep 80 = .ok (.istore 5, 2) := by decide +kernel
theorem dX4_keep_82 : decode cX4_keep 82 = .ok (.iload 5, 2) := by decide +kernel
theorem dX4_keep_84 : decode cX4_keep 84 = .ok (.ifCond .lt 14, 3) := by decide +kernel
theorem dX4_keep_87 : decode cX4_keep 87 = .ok (.iload_n 3, 1) := by decide +kernel
theorem dX4_keep_88 : decode cX4_keep 88 = .ok (.ifCond .ne 7, 3) := by decide +kernel
theorem dX4_keep_91 : decode cX4_keep 91 = .ok (.iconst 1, 1) := by decide +kernel
theorem dX4_keep_92 : decode cX4_keep 92 = .ok (.goto 5, 3) := by decide +kernel
theorem dX4_keep_95 : decode cX4_keep 95 = .ok (.iload 5, 2) := by decide +kernel
theorem dX4_keep_97 : decode cX4_keep 97 = .ok (.ireturn, 1) := by decide +kernel
theorem dX4_keep_98 : decode cX4_keep 98 = .ok (.aload_n 0, 1) := by decide +kernel
theorem dX4_keep_99 : decode cX4_keep 99 = .ok (.iload_n 1, 1) := by decide +kernel
theorem dX4_keep_100 : decode cX4_keep 100 = .ok (.iload_n 2, 1) := by decide +kernel
theorem dX4_keep_101 : decode cX4_keep 101 = .ok (.invokevirtual 203, 3) := by decide +kernel
theorem dX4_keep_104 : decode cX4_keep 104 = .ok (.istore 6, 2) := by decide +kernel
theorem dX4_keep_106 : decode cX4_keep 106 = .ok (.iload 6, 2) := by decide +kernel
theorem dX4_keep_108 : decode cX4_keep 108 = .ok (.ifCond .lt 14, 3) := by decide +kernel
theorem dX4_keep_111 : decode cX4_keep 111 = .ok (.iload_n 3, 1) := by decide +kernel
theorem dX4_keep_112 : decode cX4_keep 112 = .ok (.ifCond .ne 7, 3) := by decide +kernel
theorem dX4_keep_115 : decode cX4_keep 115 = .ok (.iconst 2, 1) := by decide +kernel
theorem dX4_keep_116 : decode cX4_keep 116 = .ok (.goto 5, 3) := by decide +kernel
theorem dX4_keep_119 : decode cX4_keep 119 = .ok (.iload 6, 2) := by decide +kernel
theorem dX4_keep_121 : decode cX4_keep 121 = .ok (.ireturn, 1) := by decide +kernel
theorem dX4_keep_122 : decode cX4_keep 122 = .ok (.bipush (-9), 2) := by decide +kernel
theorem dX4_keep_124 : decode cX4_keep 124 = .ok (.ireturn, 1) := by decide +kernel
abbrev A4_keep (G : GG) (Q : Int32 → MM → Prop) := AW G E0 (MZ G (qI Q)) (WY yX4_keep cX4_keep 7 (some .int)) RX4 cX4_keep 7 (some .int) ({ frames := 6, cells := 0, slots := 0, locals := 144 } : Room) 0 0
def D4_keep_c43 (Q : Int32 → MM → Prop) (M : MM) : Prop := D4_refused (-2 : Int32) M (fun (r15 : Int32) (M16 : MM) => Q r15 M16)
def D4_keep (x1 : Int32) (x2 : Int32) (x3 : Int32) (M : MM) (Q : Int32 → MM → Prop) : Prop := D4_isCell x1 M (fun (r1 : Int32) (M2 : MM) => ((r1 ≠ 0 → D4_outside x2 (1 : Int32) (24 : Int32) M2 (fun (r3 : Int32) (M4 : MM) => ((r3 = 0 → ((x3 < 0 → D4_keep_c43 Q M4) ∧ (¬ x3 < 0 → ((x3 ≤ (1 : Int32) → D4_staysDry x1 x2 (-9 : Int32) (-9 : Int32) M4 (fun (r5 : Int32) (M6 : MM) => ((r5 = 0 → D4_oneKeeper x1 x2 M6 (fun (r7 : Int32) (M8 : MM) => ((r7 < 0 → D4_firstOfTwoKeepers x1 x2 M8 (fun (r9 : Int32) (M10 : MM) => ((r9 < 0 → Q (-9 : Int32) M10) ∧ (¬ r9 < 0 → ((x3 ≠ 0 → Q r9 M10) ∧ (x3 = 0 → Q (2 : Int32) M10)))))) ∧ (¬ r7 < 0 → ((x3 ≠ 0 → Q r7 M8) ∧ (x3 = 0 → Q (1 : Int32) M8)))))) ∧ (¬ r5 = 0 → ((x3 ≠ 0 → Q (-9 : Int32) M6) ∧ (x3 = 0 → Q (0 : Int32) M6)))))) ∧ (¬ x3 ≤ (1 : Int32) → D4_keep_c43 Q M4))))) ∧ (¬ r3 = 0 → D4_refused r3 M4 (fun (r11 : Int32) (M12 : MM) => Q r11 M12))))) ∧ (r1 = 0 → D4_refused (-1 : Int32) M2 (fun (r13 : Int32) (M14 : MM) => Q r13 M14))))
set_option maxHeartbeats 4000000 in
set_option maxRecDepth 100000 in
theorem s4_keep_c43 {G : GG} {Q : Int32 → MM → Prop} : ∀  (M : MM), D4_keep_c43 Q M → A4_keep G Q 43 [(0, .ref (gA G 0))] [] M := by
  intro  M h
  unfold D4_keep_c43 at h
  refine a_aload_n dX4_keep_43 0 rfl ?_
  refine a_bipush (v := -2) dX4_keep_44 (by decide) ?_
  refine a_callVi (n := 1) [.int _] (C := RX4) (ci := 2) (qc := (RX4, TX4, 12)) (fsF := fl2 G _) ob_0.1 (fun _ => en2 ob_0.2) rfl rfl dX4_keep_46 (s4_refused h) (gV tbc kM_RX4_43_X4_refused kI_X4_refused kS_X4_refused kN_RX4 kC_X4_refused) rfl (by decide +kernel) ⟨Nat.le_of_ble_eq_true rfl, Nat.le_of_ble_eq_true rfl⟩ rfl rfl (Nat.le_of_ble_eq_true rfl) ⟨Nat.le_refl 0, Nat.le_refl 0⟩ (fun r M h => ?_)
  exact a_iret dX4_keep_49 ⟨_, rfl, h⟩
set_option maxHeartbeats 4000000 in
set_option maxRecDepth 100000 in
theorem s4_keep {G : GG} {x1 : Int32} {x2 : Int32} {x3 : Int32} {M : MM} {Q : Int32 → MM → Prop} (h : D4_keep x1 x2 x3 M Q) : CM G yX4_keep (WY yX4_keep cX4_keep 7 (some .int)) 6 144 [.ref (gA G 0), .int x1, .int x2, .int x3] M (qI Q) := by
  refine CM.of (cc := cX4_keep) (nL := 7) (ret := (some .int)) (own := RX4) (by decide +kernel) rfl rfl (Nat.le_of_ble_eq_true rfl) ?_
  show A4_keep G Q 0 [(0, .ref (gA G 0)), (1, .int x1), (2, .int x2), (3, .int x3)] [] M
  unfold D4_keep at h
  refine a_iload_n dX4_keep_0 1 rfl ?_
  refine a_callSi (n := 1) [.int _] dX4_keep_1 (s4_isCell h) (gS tbc kM_RX4_114_X4_isCell kT_X4_isCell kN_RX4 kC_X4_isCell) rfl (by decide +kernel) ⟨Nat.le_of_ble_eq_true rfl, Nat.le_of_ble_eq_true rfl⟩ rfl rfl (Nat.le_of_ble_eq_true rfl) ⟨Nat.le_refl 0, Nat.le_refl 0⟩ (fun r M h => ?_)
  refine a_if_ne (tgt := 13) dX4_keep_4 (by decide) (fun c => ?_) (fun c => ?_)
  · have h := h.1 c
    refine a_iload_n dX4_keep_13 2 rfl ?_
    refine a_iconst (v := 1) dX4_keep_14 (by decide) ?_
    refine a_bipush (v := 24) dX4_keep_15 (by decide) ?_
    refine a_callSi (n := 3) [.int _, .int _, .int _] dX4_keep_17 (s4_outside h) (gS tbc kM_RX4_168_X4_outside kT_X4_outside kN_RX4 kC_X4_outside) rfl (by decide +kernel) ⟨Nat.le_of_ble_eq_true rfl, Nat.le_of_ble_eq_true rfl⟩ rfl rfl (Nat.le_of_ble_eq_true rfl) ⟨Nat.le_refl 0, Nat.le_refl 0⟩ (fun r M h => ?_)
    refine a_istore (i := 4) (L' := [(4, .int _), (0, .ref _), (1, .int _), (2, .int _), (3, .int _)]) dX4_keep_20 (by decide) rfl ?_
    refine a_iload dX4_keep_22 0 rfl ?_
    refine a_if_eq (tgt := 34) dX4_keep_24 (by decide) (fun c => ?_) (fun c => ?_)
    · have h := h.1 c
      refine a_iload_n dX4_keep_34 4 rfl ?_
      refine a_if_lt (tgt := 43) dX4_keep_35 (by decide) (fun c => ?_) (fun c => ?_)
      · have h := h.1 c
        refine a_sub [1] rfl ?_
        exact s4_keep_c43 _ h
      · have h := h.2 c
        refine a_iload_n dX4_keep_38 4 rfl ?_
        refine a_iconst (v := 1) dX4_keep_39 (by decide) ?_
        refine a_icmp_le (tgt := 50) dX4_keep_40 (by decide) (fun c => ?_) (fun c => ?_)
        · have h := h.1 c
          refine a_aload_n dX4_keep_50 1 rfl ?_
          refine a_iload_n dX4_keep_51 2 rfl ?_
          refine a_iload_n dX4_keep_52 3 rfl ?_
          refine a_bipush (v := -9) dX4_keep_53 (by decide) ?_
          refine a_bipush (v := -9) dX4_keep_55 (by decide) ?_
          refine a_callVi (n := 4) [.int _, .int _, .int _, .int _] (C := RX4) (ci := 2) (qc := (RX4, TX4, 12)) (fsF := fl2 G _) ob_0.1 (fun _ => en2 ob_0.2) rfl rfl dX4_keep_57 (s4_staysDry h) (gV tbc kM_RX4_196_X4_staysDry kI_X4_staysDry kS_X4_staysDry kN_RX4 kC_X4_staysDry) rfl (by decide +kernel) ⟨Nat.le_of_ble_eq_true rfl, Nat.le_of_ble_eq_true rfl⟩ rfl rfl (Nat.le_of_ble_eq_true rfl) ⟨Nat.le_refl 0, Nat.le_refl 0⟩ (fun r M h => ?_)
          refine a_if_eq (tgt := 74) dX4_keep_60 (by decide) (fun c => ?_) (fun c => ?_)
          · have h := h.1 c
            refine a_aload_n dX4_keep_74 1 rfl ?_
            refine a_iload_n dX4_keep_75 2 rfl ?_
            refine a_iload_n dX4_keep_76 3 rfl ?_
            refine a_callVi (n := 2) [.int _, .int _] (C := RX4) (ci := 2) (qc := (RX4, TX4, 12)) (fsF := fl2 G _) ob_0.1 (fun _ => en2 ob_0.2) rfl rfl dX4_keep_77 (s4_oneKeeper h) (gV tbc kM_RX4_200_X4_oneKeeper kI_X4_oneKeeper kS_X4_oneKeeper kN_RX4 kC_X4_oneKeeper) rfl (by decide +kernel) ⟨Nat.le_of_ble_eq_true rfl, Nat.le_of_ble_eq_true rfl⟩ rfl rfl (Nat.le_of_ble_eq_true rfl) ⟨Nat.le_refl 0, Nat.le_refl 0⟩ (fun r M h => ?_)
            refine a_istore (i := 5) (L' := [(5, .int _), (4, .int _), (0, .ref _), (1, .int _), (2, .int _), (3, .int _)]) dX4_keep_80 (by decide) rfl ?_
            refine a_iload dX4_keep_82 0 rfl ?_
            refine a_if_lt (tgt := 98) dX4_keep_84 (by decide) (fun c => ?_) (fun c => ?_)
            · have h := h.1 c
              refine a_aload_n dX4_keep_98 2 rfl ?_
              refine a_iload_n dX4_keep_99 3 rfl ?_
              refine a_iload_n dX4_keep_100 4 rfl ?_
              refine a_callVi (n := 2) [.int _, .int _] (C := RX4) (ci := 2) (qc := (RX4, TX4, 12)) (fsF := fl2 G _) ob_0.1 (fun _ => en2 ob_0.2) rfl rfl dX4_keep_101 (s4_firstOfTwoKeepers h) (gV tbc kM_RX4_203_X4_firstOfTwoKeepers kI_X4_firstOfTwoKeepers kS_X4_firstOfTwoKeepers kN_RX4 kC_X4_firstOfTwoKeepers) rfl (by decide +kernel) ⟨Nat.le_of_ble_eq_true rfl, Nat.le_of_ble_eq_true rfl⟩ rfl rfl (Nat.le_of_ble_eq_true rfl) ⟨Nat.le_refl 0, Nat.le_refl 0⟩ (fun r M h => ?_)
              refine a_istore (i := 6) (L' := [(6, .int _), (5, .int _), (4, .int _), (0, .ref _), (1, .int _), (2, .int _), (3, .int _)]) dX4_keep_104 (by decide) rfl ?_
              refine a_iload dX4_keep_106 0 rfl ?_
              refine a_if_lt (tgt := 122) dX4_keep_108 (by decide) (fun c => ?_) (fun c => ?_)
              · have h := h.1 c
                refine a_bipush (v := -9) dX4_keep_122 (by decide) ?_
                exact a_iret dX4_keep_124 ⟨_, rfl, h⟩
              · have h := h.2 c
                refine a_iload_n dX4_keep_111 6 rfl ?_
                refine a_if_ne (tgt := 119) dX4_keep_112 (by decide) (fun c => ?_) (fun c => ?_)
                · have h := h.1 c
                  refine a_iload dX4_keep_119 0 rfl ?_
                  exact a_iret dX4_keep_121 ⟨_, rfl, h⟩
                · have h := h.2 c
                  refine a_iconst (v := 2) dX4_keep_115 (by decide) ?_
                  refine a_goto (tgt := 121) dX4_keep_116 (by decide) ?_
                  exact a_iret dX4_keep_121 ⟨_, rfl, h⟩
            · have h := h.2 c
              refine a_iload_n dX4_keep_87 5 rfl ?_
              refine a_if_ne (tgt := 95) dX4_keep_88 (by decide) (fun c => ?_) (fun c => ?_)
              · have h := h.1 c
                refine a_iload dX4_keep_95 0 rfl ?_
                exact a_iret dX4_keep_97 ⟨_, rfl, h⟩
              · have h := h.2 c
                refine a_iconst (v := 1) dX4_keep_91 (by decide) ?_
                refine a_goto (tgt := 97) dX4_keep_92 (by decide) ?_
                exact a_iret dX4_keep_97 ⟨_, rfl, h⟩
          · have h := h.2 c
            refine a_iload_n dX4_keep_63 4 rfl ?_
            refine a_if_ne (tgt := 71) dX4_keep_64 (by decide) (fun c => ?_) (fun c => ?_)
            · have h := h.1 c
              refine a_bipush (v := -9) dX4_keep_71 (by decide) ?_
              exact a_iret dX4_keep_73 ⟨_, rfl, h⟩
            · have h := h.2 c
              refine a_iconst (v := 0) dX4_keep_67 (by decide) ?_
              refine a_goto (tgt := 73) dX4_keep_68 (by decide) ?_
              exact a_iret dX4_keep_73 ⟨_, rfl, h⟩
        · have h := h.2 c
          refine a_sub [1] rfl ?_
          exact s4_keep_c43 _ h
    · have h := h.2 c
      refine a_aload_n dX4_keep_27 1 rfl ?_
      refine a_iload dX4_keep_28 0 rfl ?_
      refine a_callVi (n := 1) [.int _] (C := RX4) (ci := 2) (qc := (RX4, TX4, 12)) (fsF := fl2 G _) ob_0.1 (fun _ => en2 ob_0.2) rfl rfl dX4_keep_30 (s4_refused h) (gV tbc kM_RX4_43_X4_refused kI_X4_refused kS_X4_refused kN_RX4 kC_X4_refused) rfl (by decide +kernel) ⟨Nat.le_of_ble_eq_true rfl, Nat.le_of_ble_eq_true rfl⟩ rfl rfl (Nat.le_of_ble_eq_true rfl) ⟨Nat.le_refl 0, Nat.le_refl 0⟩ (fun r M h => ?_)
      exact a_iret dX4_keep_33 ⟨_, rfl, h⟩
  · have h := h.2 c
    refine a_aload_n dX4_keep_7 0 rfl ?_
    refine a_iconst (v := -1) dX4_keep_8 (by decide) ?_
    refine a_callVi (n := 1) [.int _] (C := RX4) (ci := 2) (qc := (RX4, TX4, 12)) (fsF := fl2 G _) ob_0.1 (fun _ => en2 ob_0.2) rfl rfl dX4_keep_9 (s4_refused h) (gV tbc kM_RX4_43_X4_refused kI_X4_refused kS_X4_refused kN_RX4 kC_X4_refused) rfl (by decide +kernel) ⟨Nat.le_of_ble_eq_true rfl, Nat.le_of_ble_eq_true rfl⟩ rfl rfl (Nat.le_of_ble_eq_true rfl) ⟨Nat.le_refl 0, Nat.le_refl 0⟩ (fun r M h => ?_)
    exact a_iret dX4_keep_12 ⟨_, rfl, h⟩

/-! X4_level -/
theorem dX4_level_0 : decode cX4_level 0 = .ok (.iload_n 1, 1) := by decide +kernel
theorem dX4_level_1 : decode cX4_level 1 = .ok (.iconst 0, 1) := by decide +kernel
theorem dX4_level_2 : decode cX4_level 2 = .ok (.bipush 60, 2) := by decide +kernel
theorem dX4_level_4 : decode cX4_level 4 = .ok (.invokestatic 168, 3) := by decide +kernel
theorem dX4_level_7 : decode cX4_level 7 = .ok (.istore_n 2, 1) := by decide +kernel
theorem dX4_level_8 : decode cX4_level 8 = .ok (.iload_n 2, 1) := by decide +kernel
theorem dX4_level_9 : decode cX4_level 9 = .ok (.ifCond .eq 9, 3) := by decide +kernel
theorem dX4_level_12 : decode cX4_level 12 = .ok (.aload_n 0, 1) := by decide +kernel
theorem dX4_level_13 : decode cX4_level 13 = .ok (.iload_n 2, 1) := by decide +kernel
theorem dX4_level_14 : decode cX4_level 14 = .ok (.invokevirtual 43, 3) := by decide +kernel
theorem dX4_level_17 : decode cX4_level 17 = .ok (.ireturn, 1) := by decide +kernel
theorem dX4_level_18 : decode cX4_level 18 = .ok (.aload_n 0, 1) := by decide +kernel
theorem dX4_level_19 : decode cX4_level 19 = .ok (.getfield 10, 3) := by decide +kernel
theorem dX4_level_22 : decode cX4_level 22 = .ok (.getfield 152, 3) := by decide +kernel
theorem dX4_level_25 : decode cX4_level 25 = .ok (.iload_n 1, 1) := by decide +kernel
theorem dX4_level_26 : decode cX4_level 26 = .ok (.iadd, 1) := by decide +kernel
theorem dX4_level_27 : decode cX4_level 27 = .ok (.invokestatic 172, 3) := by decide +kernel
theorem dX4_level_30 : decode cX4_level 30 = .ok (.ireturn, 1) := by decide +kernel
abbrev A4_level (G : GG) (Q : Int32 → MM → Prop) := AW G E0 (MZ G (qI Q)) (WY yX4_level cX4_level 3 (some .int)) RX4 cX4_level 3 (some .int) ({ frames := 2, cells := 0, slots := 0, locals := 42 } : Room) 0 0
def D4_level (x1 : Int32) (M : MM) (Q : Int32 → MM → Prop) : Prop := D4_outside x1 (0 : Int32) (60 : Int32) M (fun (r1 : Int32) (M2 : MM) => ((r1 = 0 → D3_height ((M2 1 6) + x1) M2 (fun (r3 : Int32) (M4 : MM) => Q r3 M4)) ∧ (¬ r1 = 0 → D4_refused r1 M2 (fun (r5 : Int32) (M6 : MM) => Q r5 M6))))
set_option maxHeartbeats 4000000 in
set_option maxRecDepth 100000 in
theorem s4_level {G : GG} {x1 : Int32} {M : MM} {Q : Int32 → MM → Prop} (h : D4_level x1 M Q) : CM G yX4_level (WY yX4_level cX4_level 3 (some .int)) 2 42 [.ref (gA G 0), .int x1] M (qI Q) := by
  refine CM.of (cc := cX4_level) (nL := 3) (ret := (some .int)) (own := RX4) (by decide +kernel) rfl rfl (Nat.le_of_ble_eq_true rfl) ?_
  show A4_level G Q 0 [(0, .ref (gA G 0)), (1, .int x1)] [] M
  unfold D4_level at h
  refine a_iload_n dX4_level_0 1 rfl ?_
  refine a_iconst (v := 0) dX4_level_1 (by decide) ?_
  refine a_bipush (v := 60) dX4_level_2 (by decide) ?_
  refine a_callSi (n := 3) [.int _, .int _, .int _] dX4_level_4 (s4_outside h) (gS tbc kM_RX4_168_X4_outside kT_X4_outside kN_RX4 kC_X4_outside) rfl (by decide +kernel) ⟨Nat.le_of_ble_eq_true rfl, Nat.le_of_ble_eq_true rfl⟩ rfl rfl (Nat.le_of_ble_eq_true rfl) ⟨Nat.le_refl 0, Nat.le_refl 0⟩ (fun r M h => ?_)
  refine a_istore_n (i := 2) (L' := [(2, .int _), (0, .ref _), (1, .int _)]) dX4_level_7 rfl (by decide) rfl ?_
  refine a_iload_n dX4_level_8 0 rfl ?_
  refine a_if_eq (tgt := 18) dX4_level_9 (by decide) (fun c => ?_) (fun c => ?_)
  · have h := h.1 c
    refine a_aload_n dX4_level_18 1 rfl ?_
    refine a_get2 dX4_level_19 0 (by decide) (tbc _ kF_RX4_10) (fun w h => tbc _ (uW2 w h)) rfl ob_0 rfl ?_
    refine a_getN0 dX4_level_22 6 (by decide) (fun _ h => h.2.2.1) (fun w h => tbc _ (uW0 w h)) rfl ob_1 rfl ?_
    refine a_iload_n dX4_level_25 2 rfl ?_
    refine a_iadd dX4_level_26 ?_
    refine a_callSi (n := 1) [.int _] dX4_level_27 (s3_height h) (gS tbc kM_RX4_172_X3_height kT_X3_height kN_RX3 kC_X3_height) rfl (by decide +kernel) ⟨Nat.le_of_ble_eq_true rfl, Nat.le_of_ble_eq_true rfl⟩ rfl rfl (Nat.le_of_ble_eq_true rfl) ⟨Nat.le_refl 0, Nat.le_refl 0⟩ (fun r M h => ?_)
    exact a_iret dX4_level_30 ⟨_, rfl, h⟩
  · have h := h.2 c
    refine a_aload_n dX4_level_12 1 rfl ?_
    refine a_iload_n dX4_level_13 0 rfl ?_
    refine a_callVi (n := 1) [.int _] (C := RX4) (ci := 2) (qc := (RX4, TX4, 12)) (fsF := fl2 G _) ob_0.1 (fun _ => en2 ob_0.2) rfl rfl dX4_level_14 (s4_refused h) (gV tbc kM_RX4_43_X4_refused kI_X4_refused kS_X4_refused kN_RX4 kC_X4_refused) rfl (by decide +kernel) ⟨Nat.le_of_ble_eq_true rfl, Nat.le_of_ble_eq_true rfl⟩ rfl rfl (Nat.le_of_ble_eq_true rfl) ⟨Nat.le_refl 0, Nat.le_refl 0⟩ (fun r M h => ?_)
    exact a_iret dX4_level_17 ⟨_, rfl, h⟩

/-! X4_lots -/
theorem dX4_lots_0 : decode cX4_lots 0 = .ok (.iload_n 1, 1) := by decide +kernel
theorem dX4_lots_1 : decode cX4_lots 1 = .ok (.iconst 1, 1) := by decide +kernel
theorem dX4_lots_2 : decode cX4_lots 2 = .ok (.bipush 20, 2) := by decide +kernel
theorem dX4_lots_4 : decode cX4_lots 4 = .ok (.invokestatic 168, 3) := by decide +kernel
theorem dX4_lots_7 : decode cX4_lots 7 = .ok (.istore 4, 2) := by decide +kernel
theorem dX4_lots_9 : decode cX4_lots 9 = .ok (.iload 4, 2) := by decide +kernel
theorem dX4_lots_11 : decode cX4_lots 11 = .ok (.ifCond .eq 10, 3) := by decide +kernel
theorem dX4_lots_14 : decode cX4_lots 14 = .ok (.aload_n 0, 1) := by decide +kernel
theorem dX4_lots_15 : decode cX4_lots 15 = .ok (.iload 4, 2) := by decide +kernel
theorem dX4_lots_17 : decode cX4_lots 17 = .ok (.invokevirtual 43, 3) := by decide +kernel
theorem dX4_lots_20 : decode cX4_lots 20 = .ok (.ireturn, 1) := by decide +kernel
theorem dX4_lots_21 : decode cX4_lots 21 = .ok (.iload_n 3, 1) := by decide +kernel
theorem dX4_lots_22 : decode cX4_lots 22 = .ok (.ifCond .lt 8, 3) := by decide +kernel
theorem dX4_lots_25 : decode cX4_lots 25 = .ok (.iload_n 3, 1) := by decide +kernel
theorem dX4_lots_26 : decode cX4_lots 26 = .ok (.iconst 1, 1) := by decide +kernel
theorem dX4_lots_27 : decode cX4_lots 27 = .ok (.if_icmp .le 10, 3) := by decide +kernel
theorem dX4_lots_30 : decode cX4_lots 30 = .ok (.aload_n 0, 1) := by decide +kernel
theorem dX4_lots_31 : decode cX4_lots 31 = .ok (.bipush (-2), 2) := by decide +kernel
theorem dX4_lots_33 : decode cX4_lots 33 = .ok (.invokevirtual 43, 3) := by decide +kernel
theorem dX4_lots_36 : decode cX4_lots 36 = .ok (.ireturn, 1) := by decide +kernel
theorem dX4_lots_37 : decode cX4_lots 37 = .ok (.iload_n 2, 1) := by decide +kernel
theorem dX4_lots_38 : decode cX4_lots 38 = .ok (.istore 5, 2) := by decide +kernel
theorem dX4_lots_40 : decode cX4_lots 40 = .ok (.iconst 0, 1) := by decide +kernel
theorem dX4_lots_41 : decode cX4_lots 41 = .ok (.istore 6, 2) := by decide +kernel
theorem dX4_lots_43 : decode cX4_lots 43 = .ok (.iconst 0, 1) := by decide +kernel
theorem dX4_lots_44 : decode cX4_lots 44 = .ok (.istore 7, 2) := by decide +kernel
theorem dX4_lots_46 : decode cX4_lots 46 = .ok (.iload 7, 2) := by decide +kernel
theorem dX4_lots_48 : decode cX4_lots 48 = .ok (.iload_n 1, 1) := by decide +kernel
theorem dX4_lots_49 : decode cX4_lots 49 = .ok (.if_icmp .ge 117, 3) := by decide +kernel
theorem dX4_lots_52 : decode cX4_lots 52 = .ok (.aload_n 0, 1) := by decide +kernel
theorem dX4_lots_53 : decode cX4_lots 53 = .ok (.getfield 16, 3) := by decide +kernel
theorem dX4_lots_56 : decode cX4_lots 56 = .ok (.aload_n 0, 1) := by decide +kernel
theorem dX4_lots_57 : decode cX4_lots 57 = .ok (.getfield 10, 3) := by decide +kernel
theorem dX4_lots_60 : decode cX4_lots 60 = .ok (.invokevirtual 65, 3) := by decide +kernel
theorem dX4_lots_63 : decode cX4_lots 63 = .ok (.iconst 0, 1) := by decide +kernel
theorem dX4_lots_64 : decode cX4_lots 64 = .ok (.istore 8, 2) := by decide +kernel
theorem dX4_lots_66 : decode cX4_lots 66 = .ok (.iload 8, 2) := by decide +kernel
theorem dX4_lots_68 : decode cX4_lots 68 = .ok (.bipush 8, 2) := by decide +kernel
theorem dX4_lots_70 : decode cX4_lots 70 = .ok (.if_icmp .ge 55, 3) := by decide +kernel
theorem dX4_lots_73 : decode cX4_lots 73 = .ok (.aload_n 0, 1) := by decide +kernel
theorem dX4_lots_74 : decode cX4_lots 74 = .ok (.getfield 16, 3) := by decide +kernel
theorem dX4_lots_77 : decode cX4_lots 77 = .ok (.iload 8, 2) := by decide +kernel
theorem dX4_lots_79 : decode cX4_lots 79 = .ok (.invokevirtual 96, 3) := by decide +kernel
theorem dX4_lots_82 : decode cX4_lots 82 = .ok (.ifCond .eq 37, 3) := by decide +kernel
theorem dX4_lots_85 : decode cX4_lots 85 = .ok (.iload 5, 2) := by decide +kernel
theorem dX4_lots_87 : decode cX4_lots 87 = .ok (.ldc_w 293, 3) := by decide +kernel
theorem dX4_lots_90 : decode cX4_lots 90 = .ok (.imul, 1) := by decide +kernel
theorem dX4_lots_91 : decode cX4_lots 91 = .ok (.sipush 12345, 3) := by decide +kernel
theorem dX4_lots_94 : decode cX4_lots 94 = .ok (.iadd, 1) := by decide +kernel
theorem dX4_lots_95 : decode cX4_lots 95 = .ok (.istore 5, 2) := by decide +kernel
theorem dX4_lots_97 : decode cX4_lots 97 = .ok (.aload_n 0, 1) := by decide +kernel
theorem dX4_lots_98 : decode cX4_lots 98 = .ok (.getfield 16, 3) := by decide +kernel
theorem dX4_lots_101 : decode cX4_lots 101 = .ok (.iload 8, 2) := by decide +kernel
theorem dX4_lots_103 : decode cX4_lots 103 = .ok (.iload 5, 2) := by decide +kernel
theorem dX4_lots_105 : decode cX4_lots 105 = .ok (.ldc_w 294, 3) := by decide +kernel
theorem dX4_lots_108 : decode cX4_lots 108 = .ok (.iand, 1) := by decide +kernel
theorem dX4_lots_109 : decode cX4_lots 109 = .ok (.ldc_w 295, 3) := by decide +kernel
theorem dX4_lots_112 : decode cX4_lots 112 = .ok (.idiv, 1) := by decide +kernel
theorem dX4_lots_113 : decode cX4_lots 113 = .ok (.bipush 6, 2) := by decide +kernel
theorem dX4_lots_115 : decode cX4_lots 115 = .ok (.irem, 1) := by decide +kernel
theorem dX4_lots_116 : decode cX4_lots 116 = .ok (.invokevirtual 142, 3) := by decide +kernel
theorem dX4_lots_119 : decode cX4_lots 119 = .ok (.iinc 8 1, 3) := by decide +kernel
theorem dX4_lots_122 : decode cX4_lots 122 = .ok (.goto (-56), 3) := by decide +kernel
theorem dX4_lots_125 : decode cX4_lots 125 = .ok (.aload_n 0, 1) := by decide +kernel
theorem dX4_lots_126 : decode cX4_lots 126 = .ok (.getfield 16, 3) := by decide +kernel
theorem dX4_lots_129 : decode cX4_lots 129 = .ok (.bipush 12, 2) := by decide +kernel
theorem dX4_lots_131 : decode cX4_lots 131 = .ok (.invokevirtual 155, 3) := by decide +kernel
theorem dX4_lots_134 : decode cX4_lots 134 = .ok (.iload 6, 2) := by decide +kernel
theorem dX4_lots_136 : decode cX4_lots 136 = .ok (.iload_n 3, 1) := by decide +kernel
theorem dX4_lots_137 : decode cX4_lots 137 = .ok (.ifCond .ne 13, 3) := by decide +kernel
theorem dX4_lots_140 : decode cX4_lots 140 = .ok (.aload_n 0, 1) := by decide +kernel
theorem dX4_lots_141 : decode cX4_lots 141 = .ok (.getfield 16, 3) := by decide +kernel
theorem dX4_lots_144 : decode cX4_lots 144 = .ok (.invokevirtual 139, 3) := by decide +kernel
theorem dX4_lots_147 : decode cX4_lots 147 = .ok (.goto 10, 3) := by decide +kernel
theorem dX4_lots_150 : decode cX4_lots 150 = .ok (.aload_n 0, 1) := by decide +kernel
theorem dX4_lots_151 : decode cX4_lots 151 = .ok (.getfield 16, 3) := by decide +kernel
theorem dX4_lots_154 : decode cX4_lots 154 = .ok (.getfield 158, 3) := by decide +kernel
theorem dX4_lots_157 : decode cX4_lots 157 = .ok (.iadd, 1) := by decide +kernel
theorem dX4_lots_158 : decode cX4_lots 158 = .ok (.istore 6, 2) := by decide +kernel
theorem dX4_lots_160 : decode cX4_lots 160 = .ok (.iinc 7 1, 3) := by decide +kernel
theorem dX4_lots_163 : decode cX4_lots 163 = .ok (.goto (-117), 3) := by decide +kernel
theorem dX4_lots_166 : decode cX4_lots 166 = .ok (.iload 6, 2) := by decide +kernel
theorem dX4_lots_168 : decode cX4_lots 168 = .ok (.ireturn, 1) := by decide +kernel
abbrev A4_lots (G : GG) (Q : Int32 → MM → Prop) := AW G E0 (MZ G (qI Q)) (WY yX4_lots cX4_lots 9 (some .int)) RX4 cX4_lots 9 (some .int) ({ frames := 4, cells := 0, slots := 0, locals := 94 } : Room) 0 0
def D4_lots_c30 (Q : Int32 → MM → Prop) (M : MM) : Prop := D4_refused (-2 : Int32) M (fun (r5 : Int32) (M6 : MM) => Q r5 M6)
def D4_lots_c119 (K66 : Int32 → Int32 → Int32 → Int32 → Int32 → Int32 → MM → Prop) (K46 : Int32 → Int32 → Int32 → Int32 → Int32 → MM → Prop) (Q : Int32 → MM → Prop) (x1 : Int32) (x3 : Int32) (x5 : Int32) (x6 : Int32) (x7 : Int32) (x8 : Int32) (M : MM) : Prop := (fun v18 : Int32 => K66 x1 x3 x5 x6 x7 v18 M) (x8 + (1 : Int32))
def D4_lots_c157 (K46 : Int32 → Int32 → Int32 → Int32 → Int32 → MM → Prop) (Q : Int32 → MM → Prop) (x1 : Int32) (x3 : Int32) (x5 : Int32) (x7 : Int32) (s0 : Int32) (s1 : Int32) (M : MM) : Prop := (fun v19 : Int32 => (fun v20 : Int32 => K46 x1 x3 x5 v19 v20 M) (x7 + (1 : Int32))) (s1 + s0)
def D4_lots_c125 (K46 : Int32 → Int32 → Int32 → Int32 → Int32 → MM → Prop) (Q : Int32 → MM → Prop) (x1 : Int32) (x3 : Int32) (x5 : Int32) (x6 : Int32) (x7 : Int32) (M : MM) : Prop := D0_goesOn 6 (12 : Int32) M (fun (M15 : MM) => ((x3 ≠ 0 → D4_lots_c157 K46 Q x1 x3 x5 x7 (M15 6 7) x6 M15) ∧ (x3 = 0 → D0_standingWorks 6 M15 (fun (r16 : Int32) (M17 : MM) => D4_lots_c157 K46 Q x1 x3 x5 x7 r16 x6 M17))))
def D4_lots_c66 (K46 : Int32 → Int32 → Int32 → Int32 → Int32 → MM → Prop) (Q : Int32 → MM → Prop) : Nat → Int32 → Int32 → Int32 → Int32 → Int32 → Int32 → MM → Prop
  | 0, _, _, _, _, _, _, _ => False
  | n + 1, x1, x3, x5, x6, x7, x8, M => (((8 : Int32) ≤ x8 → D4_lots_c125 K46 Q x1 x3 x5 x6 x7 M) ∧ (¬ (8 : Int32) ≤ x8 → D0_stands 6 x8 M (fun (r9 : Int32) (M10 : MM) => ((r9 = 0 → D4_lots_c119 (D4_lots_c66 K46 Q n) K46 Q x1 x3 x5 x6 x7 x8 M10) ∧ (¬ r9 = 0 → (fun v11 : Int32 => D0_wears 6 x8 (((v11 &&& (2147483647 : Int32)) / (65536 : Int32)) - ((v11 &&& (2147483647 : Int32)) / (65536 : Int32)) / (6 : Int32) * (6 : Int32)) M10 (fun (M13 : MM) => D4_lots_c119 (D4_lots_c66 K46 Q n) K46 Q x1 x3 v11 x6 x7 x8 M13)) ((x5 * (1103515245 : Int32)) + (12345 : Int32)))))))
def D4_lots_c46 (Q : Int32 → MM → Prop) : Nat → Int32 → Int32 → Int32 → Int32 → Int32 → MM → Prop
  | 0, _, _, _, _, _, _ => False
  | n + 1, x1, x3, x5, x6, x7, M => ((x1 ≤ x7 → Q x6 M) ∧ (¬ x1 ≤ x7 → D0_becomes 6 1 M (fun (M8 : MM) => D4_lots_c66 (D4_lots_c46 Q n) Q FU x1 x3 x5 x6 x7 (0 : Int32) M8)))
def D4_lots (x1 : Int32) (x2 : Int32) (x3 : Int32) (M : MM) (Q : Int32 → MM → Prop) : Prop := D4_outside x1 (1 : Int32) (20 : Int32) M (fun (r1 : Int32) (M2 : MM) => ((r1 = 0 → ((x3 < 0 → D4_lots_c30 Q M2) ∧ (¬ x3 < 0 → ((x3 ≤ (1 : Int32) → D4_lots_c46 Q FU x1 x3 x2 (0 : Int32) (0 : Int32) M2) ∧ (¬ x3 ≤ (1 : Int32) → D4_lots_c30 Q M2))))) ∧ (¬ r1 = 0 → D4_refused r1 M2 (fun (r3 : Int32) (M4 : MM) => Q r3 M4))))
set_option maxHeartbeats 4000000 in
set_option maxRecDepth 100000 in
theorem s4_lots_c30 {G : GG} {Q : Int32 → MM → Prop} : ∀  (M : MM), D4_lots_c30 Q M → A4_lots G Q 30 [(0, .ref (gA G 0))] [] M := by
  intro  M h
  unfold D4_lots_c30 at h
  refine a_aload_n dX4_lots_30 0 rfl ?_
  refine a_bipush (v := -2) dX4_lots_31 (by decide) ?_
  refine a_callVi (n := 1) [.int _] (C := RX4) (ci := 2) (qc := (RX4, TX4, 12)) (fsF := fl2 G _) ob_0.1 (fun _ => en2 ob_0.2) rfl rfl dX4_lots_33 (s4_refused h) (gV tbc kM_RX4_43_X4_refused kI_X4_refused kS_X4_refused kN_RX4 kC_X4_refused) rfl (by decide +kernel) ⟨Nat.le_of_ble_eq_true rfl, Nat.le_of_ble_eq_true rfl⟩ rfl rfl (Nat.le_of_ble_eq_true rfl) ⟨Nat.le_refl 0, Nat.le_refl 0⟩ (fun r M h => ?_)
  exact a_iret dX4_lots_36 ⟨_, rfl, h⟩
set_option maxHeartbeats 4000000 in
set_option maxRecDepth 100000 in
theorem s4_lots_c119 {G : GG} {K66 : Int32 → Int32 → Int32 → Int32 → Int32 → Int32 → MM → Prop} {K46 : Int32 → Int32 → Int32 → Int32 → Int32 → MM → Prop} {Q : Int32 → MM → Prop} (hK66 : ∀ (x1 : Int32) (x3 : Int32) (x5 : Int32) (x6 : Int32) (x7 : Int32) (x8 : Int32) (M : MM), K66 x1 x3 x5 x6 x7 x8 M → A4_lots G Q 66 [(0, .ref (gA G 0)), (1, .int x1), (3, .int x3), (5, .int x5), (6, .int x6), (7, .int x7), (8, .int x8)] [] M) (hK46 : ∀ (x1 : Int32) (x3 : Int32) (x5 : Int32) (x6 : Int32) (x7 : Int32) (M : MM), K46 x1 x3 x5 x6 x7 M → A4_lots G Q 46 [(0, .ref (gA G 0)), (1, .int x1), (3, .int x3), (5, .int x5), (6, .int x6), (7, .int x7)] [] M) : ∀ (x1 : Int32) (x3 : Int32) (x5 : Int32) (x6 : Int32) (x7 : Int32) (x8 : Int32) (M : MM), D4_lots_c119 K66 K46 Q x1 x3 x5 x6 x7 x8 M → A4_lots G Q 119 [(0, .ref (gA G 0)), (1, .int x1), (3, .int x3), (5, .int x5), (6, .int x6), (7, .int x7), (8, .int x8)] [] M := by
  intro x1 x3 x5 x6 x7 x8 M h
  unfold D4_lots_c119 at h
  refine a_iinc (L' := [(8, .int _), (0, .ref _), (1, .int _), (3, .int _), (5, .int _), (6, .int _), (7, .int _)]) dX4_lots_119 6 rfl (show _ + Int32.ofInt (1 : Int) = _ + (1 : Int32) from rfl) (by decide) rfl ?_
  refine a_goto (tgt := 66) dX4_lots_122 (by decide) ?_
  refine a_sub [1, 2, 3, 4, 5, 6, 0] rfl ?_
  exact hK66 _ _ _ _ _ _ _ h
set_option maxHeartbeats 4000000 in
set_option maxRecDepth 100000 in
theorem s4_lots_c157 {G : GG} {K46 : Int32 → Int32 → Int32 → Int32 → Int32 → MM → Prop} {Q : Int32 → MM → Prop} (hK46 : ∀ (x1 : Int32) (x3 : Int32) (x5 : Int32) (x6 : Int32) (x7 : Int32) (M : MM), K46 x1 x3 x5 x6 x7 M → A4_lots G Q 46 [(0, .ref (gA G 0)), (1, .int x1), (3, .int x3), (5, .int x5), (6, .int x6), (7, .int x7)] [] M) : ∀ (x1 : Int32) (x3 : Int32) (x5 : Int32) (x7 : Int32) (s0 : Int32) (s1 : Int32) (M : MM), D4_lots_c157 K46 Q x1 x3 x5 x7 s0 s1 M → A4_lots G Q 157 [(0, .ref (gA G 0)), (1, .int x1), (3, .int x3), (5, .int x5), (7, .int x7)] [.int s0, .int s1] M := by
  intro x1 x3 x5 x7 s0 s1 M h
  unfold D4_lots_c157 at h
  refine a_iadd dX4_lots_157 ?_
  refine a_istore (i := 6) (L' := [(6, .int _), (0, .ref _), (1, .int _), (3, .int _), (5, .int _), (7, .int _)]) dX4_lots_158 (by decide) rfl ?_
  refine a_iinc (L' := [(7, .int _), (6, .int _), (0, .ref _), (1, .int _), (3, .int _), (5, .int _)]) dX4_lots_160 5 rfl (show _ + Int32.ofInt (1 : Int) = _ + (1 : Int32) from rfl) (by decide) rfl ?_
  refine a_goto (tgt := 46) dX4_lots_163 (by decide) ?_
  refine a_sub [2, 3, 4, 5, 1, 0] rfl ?_
  exact hK46 _ _ _ _ _ _ h
set_option maxHeartbeats 4000000 in
set_option maxRecDepth 100000 in
theorem s4_lots_c125 {G : GG} {K46 : Int32 → Int32 → Int32 → Int32 → Int32 → MM → Prop} {Q : Int32 → MM → Prop} (hK46 : ∀ (x1 : Int32) (x3 : Int32) (x5 : Int32) (x6 : Int32) (x7 : Int32) (M : MM), K46 x1 x3 x5 x6 x7 M → A4_lots G Q 46 [(0, .ref (gA G 0)), (1, .int x1), (3, .int x3), (5, .int x5), (6, .int x6), (7, .int x7)] [] M) : ∀ (x1 : Int32) (x3 : Int32) (x5 : Int32) (x6 : Int32) (x7 : Int32) (M : MM), D4_lots_c125 K46 Q x1 x3 x5 x6 x7 M → A4_lots G Q 125 [(0, .ref (gA G 0)), (1, .int x1), (3, .int x3), (5, .int x5), (6, .int x6), (7, .int x7)] [] M := by
  intro x1 x3 x5 x6 x7 M h
  unfold D4_lots_c125 at h
  refine a_aload_n dX4_lots_125 0 rfl ?_
  refine a_get2 dX4_lots_126 1 (by decide) (tbc _ kF_RX4_16) (fun w h => tbc _ (uW2 w h)) rfl ob_0 rfl ?_
  refine a_bipush (v := 12) dX4_lots_129 (by decide) ?_
  refine a_callVv (n := 1) [.int _] (C := RX0) (ci := 0) (qc := (RX0, TX0, 9)) (fsF := fl0 G _) ob_6.1 (fun _ => en0 ob_6.2) rfl rfl dX4_lots_131 (s0_goesOn ob_6 h) (gV tbc kM_RX4_155_X0_goesOn kI_X0_goesOn kS_X0_goesOn kN_RX0 kC_X0_goesOn) rfl (by decide +kernel) ⟨Nat.le_of_ble_eq_true rfl, Nat.le_of_ble_eq_true rfl⟩ rfl rfl (Nat.le_of_ble_eq_true rfl) ⟨Nat.le_refl 0, Nat.le_refl 0⟩ (fun M h => ?_)
  refine a_iload dX4_lots_134 4 rfl ?_
  refine a_iload_n dX4_lots_136 2 rfl ?_
  refine a_if_ne (tgt := 150) dX4_lots_137 (by decide) (fun c => ?_) (fun c => ?_)
  · have h := h.1 c
    refine a_aload_n dX4_lots_150 0 rfl ?_
    refine a_get2 dX4_lots_151 1 (by decide) (tbc _ kF_RX4_16) (fun w h => tbc _ (uW2 w h)) rfl ob_0 rfl ?_
    refine a_getN0 dX4_lots_154 7 (by decide) (fun _ h => h.2.2.2.1) (fun w h => tbc _ (uW0 w h)) rfl ob_6 rfl ?_
    refine a_sub [0, 1, 2, 3, 5] rfl ?_
    exact s4_lots_c157 hK46 _ _ _ _ _ _ _ h
  · have h := h.2 c
    refine a_aload_n dX4_lots_140 0 rfl ?_
    refine a_get2 dX4_lots_141 1 (by decide) (tbc _ kF_RX4_16) (fun w h => tbc _ (uW2 w h)) rfl ob_0 rfl ?_
    refine a_callVi (n := 0) [] (C := RX0) (ci := 0) (qc := (RX0, TX0, 9)) (fsF := fl0 G _) ob_6.1 (fun _ => en0 ob_6.2) rfl rfl dX4_lots_144 (s0_standingWorks ob_6 h) (gV tbc kM_RX4_139_X0_standingWorks kI_X0_standingWorks kS_X0_standingWorks kN_RX0 kC_X0_standingWorks) rfl (by decide +kernel) ⟨Nat.le_of_ble_eq_true rfl, Nat.le_of_ble_eq_true rfl⟩ rfl rfl (Nat.le_of_ble_eq_true rfl) ⟨Nat.le_refl 0, Nat.le_refl 0⟩ (fun r M h => ?_)
    refine a_goto (tgt := 157) dX4_lots_147 (by decide) ?_
    refine a_sub [0, 1, 2, 3, 5] rfl ?_
    exact s4_lots_c157 hK46 _ _ _ _ _ _ _ h
set_option maxHeartbeats 4000000 in
set_option maxRecDepth 100000 in
theorem s4_lots_c66 {G : GG} {K46 : Int32 → Int32 → Int32 → Int32 → Int32 → MM → Prop} {Q : Int32 → MM → Prop} (hK46 : ∀ (x1 : Int32) (x3 : Int32) (x5 : Int32) (x6 : Int32) (x7 : Int32) (M : MM), K46 x1 x3 x5 x6 x7 M → A4_lots G Q 46 [(0, .ref (gA G 0)), (1, .int x1), (3, .int x3), (5, .int x5), (6, .int x6), (7, .int x7)] [] M) : ∀ (n : Nat) (x1 : Int32) (x3 : Int32) (x5 : Int32) (x6 : Int32) (x7 : Int32) (x8 : Int32) (M : MM), D4_lots_c66 K46 Q n x1 x3 x5 x6 x7 x8 M → A4_lots G Q 66 [(0, .ref (gA G 0)), (1, .int x1), (3, .int x3), (5, .int x5), (6, .int x6), (7, .int x7), (8, .int x8)] [] M := by
  intro n
  induction n with
  | zero => intro x1 x3 x5 x6 x7 x8 M h; exact h.elim
  | succ n ih =>
    intro x1 x3 x5 x6 x7 x8 M h
    unfold D4_lots_c66 at h
    refine a_iload dX4_lots_66 6 rfl ?_
    refine a_bipush (v := 8) dX4_lots_68 (by decide) ?_
    refine a_icmp_ge (tgt := 125) dX4_lots_70 (by decide) (fun c => ?_) (fun c => ?_)
    · have h := h.1 c
      refine a_sub [0, 1, 2, 3, 4, 5] rfl ?_
      exact s4_lots_c125 hK46 _ _ _ _ _ _ h
    · have h := h.2 c
      refine a_aload_n dX4_lots_73 0 rfl ?_
      refine a_get2 dX4_lots_74 1 (by decide) (tbc _ kF_RX4_16) (fun w h => tbc _ (uW2 w h)) rfl ob_0 rfl ?_
      refine a_iload dX4_lots_77 6 rfl ?_
      refine a_callVi (n := 1) [.int _] (C := RX0) (ci := 0) (qc := (RX0, TX0, 9)) (fsF := fl0 G _) ob_6.1 (fun _ => en0 ob_6.2) rfl rfl dX4_lots_79 (s0_stands ob_6 h) (gV tbc kM_RX4_96_X0_stands kI_X0_stands kS_X0_stands kN_RX0 kC_X0_stands) rfl (by decide +kernel) ⟨Nat.le_of_ble_eq_true rfl, Nat.le_of_ble_eq_true rfl⟩ rfl rfl (Nat.le_of_ble_eq_true rfl) ⟨Nat.le_refl 0, Nat.le_refl 0⟩ (fun r M h => ?_)
      refine a_if_eq (tgt := 119) dX4_lots_82 (by decide) (fun c => ?_) (fun c => ?_)
      · have h := h.1 c
        refine a_sub [0, 1, 2, 3, 4, 5, 6] rfl ?_
        exact s4_lots_c119 ih hK46 _ _ _ _ _ _ _ h
      · have h := h.2 c
        refine a_iload dX4_lots_85 3 rfl ?_
        refine a_ldcw dX4_lots_87 (tbc _ kK_RX4_293) ?_
        refine a_imul dX4_lots_90 ?_
        refine a_sipush (v := 12345) dX4_lots_91 (by decide) ?_
        refine a_iadd dX4_lots_94 ?_
        refine a_istore (i := 5) (L' := [(5, .int _), (0, .ref _), (1, .int _), (3, .int _), (6, .int _), (7, .int _), (8, .int _)]) dX4_lots_95 (by decide) rfl ?_
        refine a_aload_n dX4_lots_97 1 rfl ?_
        refine a_get2 dX4_lots_98 1 (by decide) (tbc _ kF_RX4_16) (fun w h => tbc _ (uW2 w h)) rfl ob_0 rfl ?_
        refine a_iload dX4_lots_101 6 rfl ?_
        refine a_iload dX4_lots_103 0 rfl ?_
        refine a_ldcw dX4_lots_105 (tbc _ kK_RX4_294) ?_
        refine a_iand dX4_lots_108 ?_
        refine a_ldcw dX4_lots_109 (tbc _ kK_RX4_295) ?_
        refine a_idiv dX4_lots_112 (by decide) ?_
        refine a_bipush (v := 6) dX4_lots_113 (by decide) ?_
        refine a_irem dX4_lots_115 (by decide) ?_
        refine a_callVv (n := 2) [.int _, .int _] (C := RX0) (ci := 0) (qc := (RX0, TX0, 9)) (fsF := fl0 G _) ob_6.1 (fun _ => en0 ob_6.2) rfl rfl dX4_lots_116 (s0_wears ob_6 h) (gV tbc kM_RX4_142_X0_wears kI_X0_wears kS_X0_wears kN_RX0 kC_X0_wears) rfl (by decide +kernel) ⟨Nat.le_of_ble_eq_true rfl, Nat.le_of_ble_eq_true rfl⟩ rfl rfl (Nat.le_of_ble_eq_true rfl) ⟨Nat.le_refl 0, Nat.le_refl 0⟩ (fun M h => ?_)
        refine a_sub [1, 2, 3, 0, 4, 5, 6] rfl ?_
        exact s4_lots_c119 ih hK46 _ _ _ _ _ _ _ h
set_option maxHeartbeats 4000000 in
set_option maxRecDepth 100000 in
theorem s4_lots_c46 {G : GG} {Q : Int32 → MM → Prop} : ∀ (n : Nat) (x1 : Int32) (x3 : Int32) (x5 : Int32) (x6 : Int32) (x7 : Int32) (M : MM), D4_lots_c46 Q n x1 x3 x5 x6 x7 M → A4_lots G Q 46 [(0, .ref (gA G 0)), (1, .int x1), (3, .int x3), (5, .int x5), (6, .int x6), (7, .int x7)] [] M := by
  intro n
  induction n with
  | zero => intro x1 x3 x5 x6 x7 M h; exact h.elim
  | succ n ih =>
    intro x1 x3 x5 x6 x7 M h
    unfold D4_lots_c46 at h
    refine a_iload dX4_lots_46 5 rfl ?_
    refine a_iload_n dX4_lots_48 1 rfl ?_
    refine a_icmp_ge (tgt := 166) dX4_lots_49 (by decide) (fun c => ?_) (fun c => ?_)
    · have h := h.1 c
      refine a_iload dX4_lots_166 4 rfl ?_
      exact a_iret dX4_lots_168 ⟨_, rfl, h⟩
    · have h := h.2 c
      refine a_aload_n dX4_lots_52 0 rfl ?_
      refine a_get2 dX4_lots_53 1 (by decide) (tbc _ kF_RX4_16) (fun w h => tbc _ (uW2 w h)) rfl ob_0 rfl ?_
      refine a_aload_n dX4_lots_56 0 rfl ?_
      refine a_get2 dX4_lots_57 0 (by decide) (tbc _ kF_RX4_10) (fun w h => tbc _ (uW2 w h)) rfl ob_0 rfl ?_
      refine a_callVv (n := 1) [.ref _] (C := RX0) (ci := 0) (qc := (RX0, TX0, 9)) (fsF := fl0 G _) ob_6.1 (fun _ => en0 ob_6.2) rfl rfl dX4_lots_60 (s0_becomes ob_6 ob_1 h) (gV tbc kM_RX4_65_X0_becomes kI_X0_becomes kS_X0_becomes kN_RX0 kC_X0_becomes) rfl (by decide +kernel) ⟨Nat.le_of_ble_eq_true rfl, Nat.le_of_ble_eq_true rfl⟩ rfl rfl (Nat.le_of_ble_eq_true rfl) ⟨Nat.le_refl 0, Nat.le_refl 0⟩ (fun M h => ?_)
      refine a_iconst (v := 0) dX4_lots_63 (by decide) ?_
      refine a_istore (i := 8) (L' := [(8, .int _), (0, .ref _), (1, .int _), (3, .int _), (5, .int _), (6, .int _), (7, .int _)]) dX4_lots_64 (by decide) rfl ?_
      refine a_sub [1, 2, 3, 4, 5, 6, 0] rfl ?_
      exact s4_lots_c66 ih _ _ _ _ _ _ _ _ h
set_option maxHeartbeats 4000000 in
set_option maxRecDepth 100000 in
theorem s4_lots {G : GG} {x1 : Int32} {x2 : Int32} {x3 : Int32} {M : MM} {Q : Int32 → MM → Prop} (h : D4_lots x1 x2 x3 M Q) : CM G yX4_lots (WY yX4_lots cX4_lots 9 (some .int)) 4 94 [.ref (gA G 0), .int x1, .int x2, .int x3] M (qI Q) := by
  refine CM.of (cc := cX4_lots) (nL := 9) (ret := (some .int)) (own := RX4) (by decide +kernel) rfl rfl (Nat.le_of_ble_eq_true rfl) ?_
  show A4_lots G Q 0 [(0, .ref (gA G 0)), (1, .int x1), (2, .int x2), (3, .int x3)] [] M
  unfold D4_lots at h
  refine a_iload_n dX4_lots_0 1 rfl ?_
  refine a_iconst (v := 1) dX4_lots_1 (by decide) ?_
  refine a_bipush (v := 20) dX4_lots_2 (by decide) ?_
  refine a_callSi (n := 3) [.int _, .int _, .int _] dX4_lots_4 (s4_outside h) (gS tbc kM_RX4_168_X4_outside kT_X4_outside kN_RX4 kC_X4_outside) rfl (by decide +kernel) ⟨Nat.le_of_ble_eq_true rfl, Nat.le_of_ble_eq_true rfl⟩ rfl rfl (Nat.le_of_ble_eq_true rfl) ⟨Nat.le_refl 0, Nat.le_refl 0⟩ (fun r M h => ?_)
  refine a_istore (i := 4) (L' := [(4, .int _), (0, .ref _), (1, .int _), (2, .int _), (3, .int _)]) dX4_lots_7 (by decide) rfl ?_
  refine a_iload dX4_lots_9 0 rfl ?_
  refine a_if_eq (tgt := 21) dX4_lots_11 (by decide) (fun c => ?_) (fun c => ?_)
  · have h := h.1 c
    refine a_iload_n dX4_lots_21 4 rfl ?_
    refine a_if_lt (tgt := 30) dX4_lots_22 (by decide) (fun c => ?_) (fun c => ?_)
    · have h := h.1 c
      refine a_sub [1] rfl ?_
      exact s4_lots_c30 _ h
    · have h := h.2 c
      refine a_iload_n dX4_lots_25 4 rfl ?_
      refine a_iconst (v := 1) dX4_lots_26 (by decide) ?_
      refine a_icmp_le (tgt := 37) dX4_lots_27 (by decide) (fun c => ?_) (fun c => ?_)
      · have h := h.1 c
        refine a_iload_n dX4_lots_37 3 rfl ?_
        refine a_istore (i := 5) (L' := [(5, .int _), (4, .int _), (0, .ref _), (1, .int _), (2, .int _), (3, .int _)]) dX4_lots_38 (by decide) rfl ?_
        refine a_iconst (v := 0) dX4_lots_40 (by decide) ?_
        refine a_istore (i := 6) (L' := [(6, .int _), (5, .int _), (4, .int _), (0, .ref _), (1, .int _), (2, .int _), (3, .int _)]) dX4_lots_41 (by decide) rfl ?_
        refine a_iconst (v := 0) dX4_lots_43 (by decide) ?_
        refine a_istore (i := 7) (L' := [(7, .int _), (6, .int _), (5, .int _), (4, .int _), (0, .ref _), (1, .int _), (2, .int _), (3, .int _)]) dX4_lots_44 (by decide) rfl ?_
        refine a_sub [4, 5, 7, 2, 1, 0] rfl ?_
        exact s4_lots_c46 _ _ _ _ _ _ _ h
      · have h := h.2 c
        refine a_sub [1] rfl ?_
        exact s4_lots_c30 _ h
  · have h := h.2 c
    refine a_aload_n dX4_lots_14 1 rfl ?_
    refine a_iload dX4_lots_15 0 rfl ?_
    refine a_callVi (n := 1) [.int _] (C := RX4) (ci := 2) (qc := (RX4, TX4, 12)) (fsF := fl2 G _) ob_0.1 (fun _ => en2 ob_0.2) rfl rfl dX4_lots_17 (s4_refused h) (gV tbc kM_RX4_43_X4_refused kI_X4_refused kS_X4_refused kN_RX4 kC_X4_refused) rfl (by decide +kernel) ⟨Nat.le_of_ble_eq_true rfl, Nat.le_of_ble_eq_true rfl⟩ rfl rfl (Nat.le_of_ble_eq_true rfl) ⟨Nat.le_refl 0, Nat.le_refl 0⟩ (fun r M h => ?_)
    exact a_iret dX4_lots_20 ⟨_, rfl, h⟩

/-! X4_low -/
theorem dX4_low_0 : decode cX4_low 0 = .ok (.iconst 0, 1) := by decide +kernel
theorem dX4_low_1 : decode cX4_low 1 = .ok (.istore_n 1, 1) := by decide +kernel
theorem dX4_low_2 : decode cX4_low 2 = .ok (.iload_n 1, 1) := by decide +kernel
theorem dX4_low_3 : decode cX4_low 3 = .ok (.bipush 12, 2) := by decide +kernel
theorem dX4_low_5 : decode cX4_low 5 = .ok (.if_icmp .ge 26, 3) := by decide +kernel
theorem dX4_low_8 : decode cX4_low 8 = .ok (.aload_n 0, 1) := by decide +kernel
theorem dX4_low_9 : decode cX4_low 9 = .ok (.getfield 10, 3) := by decide +kernel
theorem dX4_low_12 : decode cX4_low 12 = .ok (.getfield 152, 3) := by decide +kernel
theorem dX4_low_15 : decode cX4_low 15 = .ok (.iload_n 1, 1) := by decide +kernel
theorem dX4_low_16 : decode cX4_low 16 = .ok (.iadd, 1) := by decide +kernel
theorem dX4_low_17 : decode cX4_low 17 = .ok (.invokestatic 172, 3) := by decide +kernel
theorem dX4_low_20 : decode cX4_low 20 = .ok (.ifCond .ne 5, 3) := by decide +kernel
theorem dX4_low_23 : decode cX4_low 23 = .ok (.iload_n 1, 1) := by decide +kernel
theorem dX4_low_24 : decode cX4_low 24 = .ok (.ireturn, 1) := by decide +kernel
theorem dX4_low_25 : decode cX4_low 25 = .ok (.iinc 1 1, 3) := by decide +kernel
theorem dX4_low_28 : decode cX4_low 28 = .ok (.goto (-26), 3) := by decide +kernel
theorem dX4_low_31 : decode cX4_low 31 = .ok (.bipush (-9), 2) := by decide +kernel
theorem dX4_low_33 : decode cX4_low 33 = .ok (.ireturn, 1) := by decide +kernel
abbrev A4_low (G : GG) (Q : Int32 → MM → Prop) := AW G E0 (MZ G (qI Q)) (WY yX4_low cX4_low 2 (some .int)) RX4 cX4_low 2 (some .int) ({ frames := 2, cells := 0, slots := 0, locals := 42 } : Room) 0 0
def D4_low_c2 (Q : Int32 → MM → Prop) : Nat → Int32 → MM → Prop
  | 0, _, _ => False
  | n + 1, x1, M => (((12 : Int32) ≤ x1 → Q (-9 : Int32) M) ∧ (¬ (12 : Int32) ≤ x1 → D3_height ((M 1 6) + x1) M (fun (r1 : Int32) (M2 : MM) => ((r1 ≠ 0 → (fun v3 : Int32 => D4_low_c2 Q n v3 M2) (x1 + (1 : Int32))) ∧ (r1 = 0 → Q x1 M2)))))
def D4_low (M : MM) (Q : Int32 → MM → Prop) : Prop := D4_low_c2 Q FU (0 : Int32) M
set_option maxHeartbeats 4000000 in
set_option maxRecDepth 100000 in
theorem s4_low_c2 {G : GG} {Q : Int32 → MM → Prop} : ∀ (n : Nat) (x1 : Int32) (M : MM), D4_low_c2 Q n x1 M → A4_low G Q 2 [(0, .ref (gA G 0)), (1, .int x1)] [] M := by
  intro n
  induction n with
  | zero => intro x1 M h; exact h.elim
  | succ n ih =>
    intro x1 M h
    unfold D4_low_c2 at h
    refine a_iload_n dX4_low_2 1 rfl ?_
    refine a_bipush (v := 12) dX4_low_3 (by decide) ?_
    refine a_icmp_ge (tgt := 31) dX4_low_5 (by decide) (fun c => ?_) (fun c => ?_)
    · have h := h.1 c
      refine a_bipush (v := -9) dX4_low_31 (by decide) ?_
      exact a_iret dX4_low_33 ⟨_, rfl, h⟩
    · have h := h.2 c
      refine a_aload_n dX4_low_8 0 rfl ?_
      refine a_get2 dX4_low_9 0 (by decide) (tbc _ kF_RX4_10) (fun w h => tbc _ (uW2 w h)) rfl ob_0 rfl ?_
      refine a_getN0 dX4_low_12 6 (by decide) (fun _ h => h.2.2.1) (fun w h => tbc _ (uW0 w h)) rfl ob_1 rfl ?_
      refine a_iload_n dX4_low_15 1 rfl ?_
      refine a_iadd dX4_low_16 ?_
      refine a_callSi (n := 1) [.int _] dX4_low_17 (s3_height h) (gS tbc kM_RX4_172_X3_height kT_X3_height kN_RX3 kC_X3_height) rfl (by decide +kernel) ⟨Nat.le_of_ble_eq_true rfl, Nat.le_of_ble_eq_true rfl⟩ rfl rfl (Nat.le_of_ble_eq_true rfl) ⟨Nat.le_refl 0, Nat.le_refl 0⟩ (fun r M h => ?_)
      refine a_if_ne (tgt := 25) dX4_low_20 (by decide) (fun c => ?_) (fun c => ?_)
      · have h := h.1 c
        refine a_iinc (L' := [(1, .int _), (0, .ref _)]) dX4_low_25 1 rfl (show _ + Int32.ofInt (1 : Int) = _ + (1 : Int32) from rfl) (by decide) rfl ?_
        refine a_goto (tgt := 2) dX4_low_28 (by decide) ?_
        refine a_sub [1, 0] rfl ?_
        exact ih _ _ h
      · have h := h.2 c
        refine a_iload_n dX4_low_23 1 rfl ?_
        exact a_iret dX4_low_24 ⟨_, rfl, h⟩
set_option maxHeartbeats 4000000 in
set_option maxRecDepth 100000 in
theorem s4_low {G : GG} {M : MM} {Q : Int32 → MM → Prop} (h : D4_low M Q) : CM G yX4_low (WY yX4_low cX4_low 2 (some .int)) 2 42 [.ref (gA G 0)] M (qI Q) := by
  refine CM.of (cc := cX4_low) (nL := 2) (ret := (some .int)) (own := RX4) (by decide +kernel) rfl rfl (Nat.le_of_ble_eq_true rfl) ?_
  show A4_low G Q 0 [(0, .ref (gA G 0))] [] M
  unfold D4_low at h
  refine a_iconst (v := 0) dX4_low_0 (by decide) ?_
  refine a_istore_n (i := 1) (L' := [(1, .int _), (0, .ref _)]) dX4_low_1 rfl (by decide) rfl ?_
  refine a_sub [1, 0] rfl ?_
  exact s4_low_c2 _ _ _ h

/-! X4_refusedLong -/
theorem dX4_refusedLong_0 : decode cX4_refusedLong 0 = .ok (.ldc2_w 300, 3) := by decide +kernel
theorem dX4_refusedLong_3 : decode cX4_refusedLong 3 = .ok (.aload_n 0, 1) := by decide +kernel
theorem dX4_refusedLong_4 : decode cX4_refusedLong 4 = .ok (.iload_n 1, 1) := by decide +kernel
theorem dX4_refusedLong_5 : decode cX4_refusedLong 5 = .ok (.invokevirtual 43, 3) := by decide +kernel
theorem dX4_refusedLong_8 : decode cX4_refusedLong 8 = .ok (.i2l, 1) := by decide +kernel
theorem dX4_refusedLong_9 : decode cX4_refusedLong 9 = .ok (.lsub, 1) := by decide +kernel
theorem dX4_refusedLong_10 : decode cX4_refusedLong 10 = .ok (.lreturn, 1) := by decide +kernel
abbrev A4_refusedLong (G : GG) (Q : Int64 → MM → Prop) := AW G E0 (MZ G (qL Q)) (WY yX4_refusedLong cX4_refusedLong 2 (some .long)) RX4 cX4_refusedLong 2 (some .long) ({ frames := 1, cells := 0, slots := 0, locals := 22 } : Room) 0 0
def D4_refusedLong (x1 : Int32) (M : MM) (Q : Int64 → MM → Prop) : Prop := D4_refused x1 M (fun (r1 : Int32) (M2 : MM) => Q ((4000000000000000000 : Int64) - r1.toInt64) M2)
set_option maxHeartbeats 4000000 in
set_option maxRecDepth 100000 in
theorem s4_refusedLong {G : GG} {x1 : Int32} {M : MM} {Q : Int64 → MM → Prop} (h : D4_refusedLong x1 M Q) : CM G yX4_refusedLong (WY yX4_refusedLong cX4_refusedLong 2 (some .long)) 1 22 [.ref (gA G 0), .int x1] M (qL Q) := by
  refine CM.of (cc := cX4_refusedLong) (nL := 2) (ret := (some .long)) (own := RX4) (by decide +kernel) rfl rfl (Nat.le_of_ble_eq_true rfl) ?_
  show A4_refusedLong G Q 0 [(0, .ref (gA G 0)), (1, .int x1)] [] M
  unfold D4_refusedLong at h
  refine a_ldc2 dX4_refusedLong_0 (tbc _ kL_RX4_300) ?_
  refine a_aload_n dX4_refusedLong_3 0 rfl ?_
  refine a_iload_n dX4_refusedLong_4 1 rfl ?_
  refine a_callVi (n := 1) [.int _] (C := RX4) (ci := 2) (qc := (RX4, TX4, 12)) (fsF := fl2 G _) ob_0.1 (fun _ => en2 ob_0.2) rfl rfl dX4_refusedLong_5 (s4_refused h) (gV tbc kM_RX4_43_X4_refused kI_X4_refused kS_X4_refused kN_RX4 kC_X4_refused) rfl (by decide +kernel) ⟨Nat.le_of_ble_eq_true rfl, Nat.le_of_ble_eq_true rfl⟩ rfl rfl (Nat.le_of_ble_eq_true rfl) ⟨Nat.le_refl 0, Nat.le_refl 0⟩ (fun r M h => ?_)
  refine a_i2l dX4_refusedLong_8 ?_
  refine a_lsub dX4_refusedLong_9 ?_
  exact a_lret dX4_refusedLong_10 ⟨_, rfl, h⟩

/-! X4_mean -/
theorem dX4_mean_0 : decode cX4_mean 0 = .ok (.iload_n 1, 1) := by decide +kernel
theorem dX4_mean_1 : decode cX4_mean 1 = .ok (.ifCond .lt 8, 3) := by decide +kernel
theorem dX4_mean_4 : decode cX4_mean 4 = .ok (.iload_n 1, 1) := by decide +kernel
theorem dX4_mean_5 : decode cX4_mean 5 = .ok (.iconst 1, 1) := by decide +kernel
theorem dX4_mean_6 : decode cX4_mean 6 = .ok (.if_icmp .le 10, 3) := by decide +kernel
theorem dX4_mean_9 : decode cX4_mean 9 = .ok (.aload_n 0, 1) := by decide +kernel
theorem dX4_mean_10 : decode cX4_mean 10 = .ok (.bipush (-2), 2) := by decide +kernel
theorem dX4_mean_12 : decode cX4_mean 12 = .ok (.invokevirtual 247, 3) := by decide +kernel
theorem dX4_mean_15 : decode cX4_mean 15 = .ok (.lreturn, 1) := by decide +kernel
theorem dX4_mean_16 : decode cX4_mean 16 = .ok (.aload_n 0, 1) := by decide +kernel
theorem dX4_mean_17 : decode cX4_mean 17 = .ok (.getfield 10, 3) := by decide +kernel
theorem dX4_mean_20 : decode cX4_mean 20 = .ok (.invokevirtual 215, 3) := by decide +kernel
theorem dX4_mean_23 : decode cX4_mean 23 = .ok (.i2l, 1) := by decide +kernel
theorem dX4_mean_24 : decode cX4_mean 24 = .ok (.aload_n 0, 1) := by decide +kernel
theorem dX4_mean_25 : decode cX4_mean 25 = .ok (.getfield 10, 3) := by decide +kernel
theorem dX4_mean_28 : decode cX4_mean 28 = .ok (.invokevirtual 139, 3) := by decide +kernel
theorem dX4_mean_31 : decode cX4_mean 31 = .ok (.i2l, 1) := by decide +kernel
theorem dX4_mean_32 : decode cX4_mean 32 = .ok (.iload_n 1, 1) := by decide +kernel
theorem dX4_mean_33 : decode cX4_mean 33 = .ok (.invokestatic 263, 3) := by decide +kernel
theorem dX4_mean_36 : decode cX4_mean 36 = .ok (.lreturn, 1) := by decide +kernel
abbrev A4_mean (G : GG) (Q : Int64 → MM → Prop) := AW G E0 (MZ G (qL Q)) (WY yX4_mean cX4_mean 2 (some .long)) RX4 cX4_mean 2 (some .long) ({ frames := 4, cells := 0, slots := 0, locals := 85 } : Room) 0 0
def D4_mean_c9 (Q : Int64 → MM → Prop) (M : MM) : Prop := D4_refusedLong (-2 : Int32) M (fun (r7 : Int64) (M8 : MM) => Q r7 M8)
def D4_mean (x1 : Int32) (M : MM) (Q : Int64 → MM → Prop) : Prop := ((x1 < 0 → D4_mean_c9 Q M) ∧ (¬ x1 < 0 → ((x1 ≤ (1 : Int32) → D0_rates 1 M (fun (r1 : Int32) (M2 : MM) => D0_standingWorks 1 M2 (fun (r3 : Int32) (M4 : MM) => D4_fraction r1.toInt64 r3.toInt64 x1 M4 (fun (r5 : Int64) (M6 : MM) => Q r5 M6)))) ∧ (¬ x1 ≤ (1 : Int32) → D4_mean_c9 Q M))))
set_option maxHeartbeats 4000000 in
set_option maxRecDepth 100000 in
theorem s4_mean_c9 {G : GG} {Q : Int64 → MM → Prop} : ∀  (M : MM), D4_mean_c9 Q M → A4_mean G Q 9 [(0, .ref (gA G 0))] [] M := by
  intro  M h
  unfold D4_mean_c9 at h
  refine a_aload_n dX4_mean_9 0 rfl ?_
  refine a_bipush (v := -2) dX4_mean_10 (by decide) ?_
  refine a_callVl (n := 1) [.int _] (C := RX4) (ci := 2) (qc := (RX4, TX4, 12)) (fsF := fl2 G _) ob_0.1 (fun _ => en2 ob_0.2) rfl rfl dX4_mean_12 (s4_refusedLong h) (gV tbc kM_RX4_247_X4_refusedLong kI_X4_refusedLong kS_X4_refusedLong kN_RX4 kC_X4_refusedLong) rfl (by decide +kernel) ⟨Nat.le_of_ble_eq_true rfl, Nat.le_of_ble_eq_true rfl⟩ rfl rfl (Nat.le_of_ble_eq_true rfl) ⟨Nat.le_refl 0, Nat.le_refl 0⟩ (fun r M h => ?_)
  exact a_lret dX4_mean_15 ⟨_, rfl, h⟩
set_option maxHeartbeats 4000000 in
set_option maxRecDepth 100000 in
theorem s4_mean {G : GG} {x1 : Int32} {M : MM} {Q : Int64 → MM → Prop} (h : D4_mean x1 M Q) : CM G yX4_mean (WY yX4_mean cX4_mean 2 (some .long)) 4 85 [.ref (gA G 0), .int x1] M (qL Q) := by
  refine CM.of (cc := cX4_mean) (nL := 2) (ret := (some .long)) (own := RX4) (by decide +kernel) rfl rfl (Nat.le_of_ble_eq_true rfl) ?_
  show A4_mean G Q 0 [(0, .ref (gA G 0)), (1, .int x1)] [] M
  unfold D4_mean at h
  refine a_iload_n dX4_mean_0 1 rfl ?_
  refine a_if_lt (tgt := 9) dX4_mean_1 (by decide) (fun c => ?_) (fun c => ?_)
  · have h := h.1 c
    refine a_sub [0] rfl ?_
    exact s4_mean_c9 _ h
  · have h := h.2 c
    refine a_iload_n dX4_mean_4 1 rfl ?_
    refine a_iconst (v := 1) dX4_mean_5 (by decide) ?_
    refine a_icmp_le (tgt := 16) dX4_mean_6 (by decide) (fun c => ?_) (fun c => ?_)
    · have h := h.1 c
      refine a_aload_n dX4_mean_16 0 rfl ?_
      refine a_get2 dX4_mean_17 0 (by decide) (tbc _ kF_RX4_10) (fun w h => tbc _ (uW2 w h)) rfl ob_0 rfl ?_
      refine a_callVi (n := 0) [] (C := RX0) (ci := 0) (qc := (RX0, TX0, 9)) (fsF := fl0 G _) ob_1.1 (fun _ => en0 ob_1.2) rfl rfl dX4_mean_20 (s0_rates ob_1 h) (gV tbc kM_RX4_215_X0_rates kI_X0_rates kS_X0_rates kN_RX0 kC_X0_rates) rfl (by decide +kernel) ⟨Nat.le_of_ble_eq_true rfl, Nat.le_of_ble_eq_true rfl⟩ rfl rfl (Nat.le_of_ble_eq_true rfl) ⟨Nat.le_refl 0, Nat.le_refl 0⟩ (fun r M h => ?_)
      refine a_i2l dX4_mean_23 ?_
      refine a_aload_n dX4_mean_24 0 rfl ?_
      refine a_get2 dX4_mean_25 0 (by decide) (tbc _ kF_RX4_10) (fun w h => tbc _ (uW2 w h)) rfl ob_0 rfl ?_
      refine a_callVi (n := 0) [] (C := RX0) (ci := 0) (qc := (RX0, TX0, 9)) (fsF := fl0 G _) ob_1.1 (fun _ => en0 ob_1.2) rfl rfl dX4_mean_28 (s0_standingWorks ob_1 h) (gV tbc kM_RX4_139_X0_standingWorks kI_X0_standingWorks kS_X0_standingWorks kN_RX0 kC_X0_standingWorks) rfl (by decide +kernel) ⟨Nat.le_of_ble_eq_true rfl, Nat.le_of_ble_eq_true rfl⟩ rfl rfl (Nat.le_of_ble_eq_true rfl) ⟨Nat.le_refl 0, Nat.le_refl 0⟩ (fun r M h => ?_)
      refine a_i2l dX4_mean_31 ?_
      refine a_iload_n dX4_mean_32 1 rfl ?_
      refine a_callSl (n := 3) [.long _, .long _, .int _] dX4_mean_33 (s4_fraction h) (gS tbc kM_RX4_263_X4_fraction kT_X4_fraction kN_RX4 kC_X4_fraction) rfl (by decide +kernel) ⟨Nat.le_of_ble_eq_true rfl, Nat.le_of_ble_eq_true rfl⟩ rfl rfl (Nat.le_of_ble_eq_true rfl) ⟨Nat.le_refl 0, Nat.le_refl 0⟩ (fun r M h => ?_)
      exact a_lret dX4_mean_36 ⟨_, rfl, h⟩
    · have h := h.2 c
      refine a_sub [0] rfl ?_
      exact s4_mean_c9 _ h

/-! X4_mended -/
theorem dX4_mended_0 : decode cX4_mended 0 = .ok (.aload_n 0, 1) := by decide +kernel
theorem dX4_mended_1 : decode cX4_mended 1 = .ok (.getfield 10, 3) := by decide +kernel
theorem dX4_mended_4 : decode cX4_mended 4 = .ok (.iload_n 1, 1) := by decide +kernel
theorem dX4_mended_5 : decode cX4_mended 5 = .ok (.invokevirtual 80, 3) := by decide +kernel
theorem dX4_mended_8 : decode cX4_mended 8 = .ok (.ifCond .ne 13, 3) := by decide +kernel
theorem dX4_mended_11 : decode cX4_mended 11 = .ok (.ldc_w 276, 3) := by decide +kernel
theorem dX4_mended_14 : decode cX4_mended 14 = .ok (.aload_n 0, 1) := by decide +kernel
theorem dX4_mended_15 : decode cX4_mended 15 = .ok (.iconst (-1), 1) := by decide +kernel
theorem dX4_mended_16 : decode cX4_mended 16 = .ok (.invokevirtual 43, 3) := by decide +kernel
theorem dX4_mended_19 : decode cX4_mended 19 = .ok (.isub, 1) := by decide +kernel
theorem dX4_mended_20 : decode cX4_mended 20 = .ok (.ireturn, 1) := by decide +kernel
theorem dX4_mended_21 : decode cX4_mended 21 = .ok (.iload_n 2, 1) := by decide +kernel
theorem dX4_mended_22 : decode cX4_mended 22 = .ok (.iconst 0, 1) := by decide +kernel
theorem dX4_mended_23 : decode cX4_mended 23 = .ok (.bipush 60, 2) := by decide +kernel
theorem dX4_mended_25 : decode cX4_mended 25 = .ok (.invokestatic 168, 3) := by decide +kernel
theorem dX4_mended_28 : decode cX4_mended 28 = .ok (.istore_n 3, 1) := by decide +kernel
theorem dX4_mended_29 : decode cX4_mended 29 = .ok (.iload_n 3, 1) := by decide +kernel
theorem dX4_mended_30 : decode cX4_mended 30 = .ok (.ifCond .eq 13, 3) := by decide +kernel
theorem dX4_mended_33 : decode cX4_mended 33 = .ok (.ldc_w 276, 3) := by decide +kernel
theorem dX4_mended_36 : decode cX4_mended 36 = .ok (.aload_n 0, 1) := by decide +kernel
theorem dX4_mended_37 : decode cX4_mended 37 = .ok (.iload_n 3, 1) := by decide +kernel
theorem dX4_mended_38 : decode cX4_mended 38 = .ok (.invokevirtual 43, 3) := by decide +kernel
theorem dX4_mended_41 : decode cX4_mended 41 = .ok (.isub, 1) := by decide +kernel
theorem dX4_mended_42 : decode cX4_mended 42 = .ok (.ireturn, 1) := by decide +kernel
theorem dX4_mended_43 : decode cX4_mended 43 = .ok (.aload_n 0, 1) := by decide +kernel
theorem dX4_mended_44 : decode cX4_mended 44 = .ok (.iload_n 2, 1) := by decide +kernel
theorem dX4_mended_45 : decode cX4_mended 45 = .ok (.invokevirtual 177, 3) := by decide +kernel
theorem dX4_mended_48 : decode cX4_mended 48 = .ok (.aload_n 0, 1) := by decide +kernel
theorem dX4_mended_49 : decode cX4_mended 49 = .ok (.getfield 16, 3) := by decide +kernel
theorem dX4_mended_52 : decode cX4_mended 52 = .ok (.getfield 158, 3) := by decide +kernel
theorem dX4_mended_55 : decode cX4_mended 55 = .ok (.istore 4, 2) := by decide +kernel
theorem dX4_mended_57 : decode cX4_mended 57 = .ok (.aload_n 0, 1) := by decide +kernel
theorem dX4_mended_58 : decode cX4_mended 58 = .ok (.getfield 16, 3) := by decide +kernel
theorem dX4_mended_61 : decode cX4_mended 61 = .ok (.aload_n 0, 1) := by decide +kernel
theorem dX4_mended_62 : decode cX4_mended 62 = .ok (.getfield 10, 3) := by decide +kernel
theorem dX4_mended_65 : decode cX4_mended 65 = .ok (.invokevirtual 65, 3) := by decide +kernel
theorem dX4_mended_68 : decode cX4_mended 68 = .ok (.aload_n 0, 1) := by decide +kernel
theorem dX4_mended_69 : decode cX4_mended 69 = .ok (.getfield 16, 3) := by decide +kernel
theorem dX4_mended_72 : decode cX4_mended 72 = .ok (.iload_n 1, 1) := by decide +kernel
theorem dX4_mended_73 : decode cX4_mended 73 = .ok (.iconst 0, 1) := by decide +kernel
theorem dX4_mended_74 : decode cX4_mended 74 = .ok (.invokevirtual 142, 3) := by decide +kernel
theorem dX4_mended_77 : decode cX4_mended 77 = .ok (.aload_n 0, 1) := by decide +kernel
theorem dX4_mended_78 : decode cX4_mended 78 = .ok (.getfield 16, 3) := by decide +kernel
theorem dX4_mended_81 : decode cX4_mended 81 = .ok (.iload_n 2, 1) := by decide +kernel
theorem dX4_mended_82 : decode cX4_mended 82 = .ok (.invokevirtual 155, 3) := by decide +kernel
theorem dX4_mended_85 : decode cX4_mended 85 = .ok (.aload_n 0, 1) := by decide +kernel
theorem dX4_mended_86 : decode cX4_mended 86 = .ok (.getfield 16, 3) := by decide +kernel
theorem dX4_mended_89 : decode cX4_mended 89 = .ok (.getfield 158, 3) := by decide +kernel
theorem dX4_mended_92 : decode cX4_mended 92 = .ok (.iload 4, 2) := by decide +kernel
theorem dX4_mended_94 : decode cX4_mended 94 = .ok (.isub, 1) := by decide +kernel
theorem dX4_mended_95 : decode cX4_mended 95 = .ok (.ireturn, 1) := by decide +kernel
abbrev A4_mended (G : GG) (Q : Int32 → MM → Prop) := AW G E0 (MZ G (qI Q)) (WY yX4_mended cX4_mended 5 (some .int)) RX4 cX4_mended 5 (some .int) ({ frames := 5, cells := 0, slots := 0, locals := 115 } : Room) 0 0
def D4_mended (x1 : Int32) (x2 : Int32) (M : MM) (Q : Int32 → MM → Prop) : Prop := D0_knows 1 x1 M (fun (r1 : Int32) (M2 : MM) => ((r1 ≠ 0 → D4_outside x2 (0 : Int32) (60 : Int32) M2 (fun (r3 : Int32) (M4 : MM) => ((r3 = 0 → D4_inMind x2 M4 (fun (M6 : MM) => (fun v7 : Int32 => D0_becomes 6 1 M6 (fun (M9 : MM) => D0_wears 6 x1 (0 : Int32) M9 (fun (M11 : MM) => D0_goesOn 6 x2 M11 (fun (M13 : MM) => Q ((M13 6 7) - v7) M13)))) (M6 6 7))) ∧ (¬ r3 = 0 → D4_refused r3 M4 (fun (r14 : Int32) (M15 : MM) => Q ((1000000000 : Int32) - r14) M15))))) ∧ (r1 = 0 → D4_refused (-1 : Int32) M2 (fun (r16 : Int32) (M17 : MM) => Q ((1000000000 : Int32) - r16) M17))))
set_option maxHeartbeats 4000000 in
set_option maxRecDepth 100000 in
theorem s4_mended {G : GG} {x1 : Int32} {x2 : Int32} {M : MM} {Q : Int32 → MM → Prop} (h : D4_mended x1 x2 M Q) : CM G yX4_mended (WY yX4_mended cX4_mended 5 (some .int)) 5 115 [.ref (gA G 0), .int x1, .int x2] M (qI Q) := by
  refine CM.of (cc := cX4_mended) (nL := 5) (ret := (some .int)) (own := RX4) (by decide +kernel) rfl rfl (Nat.le_of_ble_eq_true rfl) ?_
  show A4_mended G Q 0 [(0, .ref (gA G 0)), (1, .int x1), (2, .int x2)] [] M
  unfold D4_mended at h
  refine a_aload_n dX4_mended_0 0 rfl ?_
  refine a_get2 dX4_mended_1 0 (by decide) (tbc _ kF_RX4_10) (fun w h => tbc _ (uW2 w h)) rfl ob_0 rfl ?_
  refine a_iload_n dX4_mended_4 1 rfl ?_
  refine a_callVi (n := 1) [.int _] (C := RX0) (ci := 0) (qc := (RX0, TX0, 9)) (fsF := fl0 G _) ob_1.1 (fun _ => en0 ob_1.2) rfl rfl dX4_mended_5 (s0_knows ob_1 h) (gV tbc kM_RX4_80_X0_knows kI_X0_knows kS_X0_knows kN_RX0 kC_X0_knows) rfl (by decide +kernel) ⟨Nat.le_of_ble_eq_true rfl, Nat.le_of_ble_eq_true rfl⟩ rfl rfl (Nat.le_of_ble_eq_true rfl) ⟨Nat.le_refl 0, Nat.le_refl 0⟩ (fun r M h => ?_)
  refine a_if_ne (tgt := 21) dX4_mended_8 (by decide) (fun c => ?_) (fun c => ?_)
  · have h := h.1 c
    refine a_iload_n dX4_mended_21 2 rfl ?_
    refine a_iconst (v := 0) dX4_mended_22 (by decide) ?_
    refine a_bipush (v := 60) dX4_mended_23 (by decide) ?_
    refine a_callSi (n := 3) [.int _, .int _, .int _] dX4_mended_25 (s4_outside h) (gS tbc kM_RX4_168_X4_outside kT_X4_outside kN_RX4 kC_X4_outside) rfl (by decide +kernel) ⟨Nat.le_of_ble_eq_true rfl, Nat.le_of_ble_eq_true rfl⟩ rfl rfl (Nat.le_of_ble_eq_true rfl) ⟨Nat.le_refl 0, Nat.le_refl 0⟩ (fun r M h => ?_)
    refine a_istore_n (i := 3) (L' := [(3, .int _), (0, .ref _), (1, .int _), (2, .int _)]) dX4_mended_28 rfl (by decide) rfl ?_
    refine a_iload_n dX4_mended_29 0 rfl ?_
    refine a_if_eq (tgt := 43) dX4_mended_30 (by decide) (fun c => ?_) (fun c => ?_)
    · have h := h.1 c
      refine a_aload_n dX4_mended_43 1 rfl ?_
      refine a_iload_n dX4_mended_44 3 rfl ?_
      refine a_callVv (n := 1) [.int _] (C := RX4) (ci := 2) (qc := (RX4, TX4, 12)) (fsF := fl2 G _) ob_0.1 (fun _ => en2 ob_0.2) rfl rfl dX4_mended_45 (s4_inMind h) (gV tbc kM_RX4_177_X4_inMind kI_X4_inMind kS_X4_inMind kN_RX4 kC_X4_inMind) rfl (by decide +kernel) ⟨Nat.le_of_ble_eq_true rfl, Nat.le_of_ble_eq_true rfl⟩ rfl rfl (Nat.le_of_ble_eq_true rfl) ⟨Nat.le_refl 0, Nat.le_refl 0⟩ (fun M h => ?_)
      refine a_aload_n dX4_mended_48 1 rfl ?_
      refine a_get2 dX4_mended_49 1 (by decide) (tbc _ kF_RX4_16) (fun w h => tbc _ (uW2 w h)) rfl ob_0 rfl ?_
      refine a_getN0 dX4_mended_52 7 (by decide) (fun _ h => h.2.2.2.1) (fun w h => tbc _ (uW0 w h)) rfl ob_6 rfl ?_
      refine a_istore (i := 4) (L' := [(4, .int _), (3, .int _), (0, .ref _), (1, .int _), (2, .int _)]) dX4_mended_55 (by decide) rfl ?_
      refine a_aload_n dX4_mended_57 2 rfl ?_
      refine a_get2 dX4_mended_58 1 (by decide) (tbc _ kF_RX4_16) (fun w h => tbc _ (uW2 w h)) rfl ob_0 rfl ?_
      refine a_aload_n dX4_mended_61 2 rfl ?_
      refine a_get2 dX4_mended_62 0 (by decide) (tbc _ kF_RX4_10) (fun w h => tbc _ (uW2 w h)) rfl ob_0 rfl ?_
      refine a_callVv (n := 1) [.ref _] (C := RX0) (ci := 0) (qc := (RX0, TX0, 9)) (fsF := fl0 G _) ob_6.1 (fun _ => en0 ob_6.2) rfl rfl dX4_mended_65 (s0_becomes ob_6 ob_1 h) (gV tbc kM_RX4_65_X0_becomes kI_X0_becomes kS_X0_becomes kN_RX0 kC_X0_becomes) rfl (by decide +kernel) ⟨Nat.le_of_ble_eq_true rfl, Nat.le_of_ble_eq_true rfl⟩ rfl rfl (Nat.le_of_ble_eq_true rfl) ⟨Nat.le_refl 0, Nat.le_refl 0⟩ (fun M h => ?_)
      refine a_aload_n dX4_mended_68 2 rfl ?_
      refine a_get2 dX4_mended_69 1 (by decide) (tbc _ kF_RX4_16) (fun w h => tbc _ (uW2 w h)) rfl ob_0 rfl ?_
      refine a_iload_n dX4_mended_72 3 rfl ?_
      refine a_iconst (v := 0) dX4_mended_73 (by decide) ?_
      refine a_callVv (n := 2) [.int _, .int _] (C := RX0) (ci := 0) (qc := (RX0, TX0, 9)) (fsF := fl0 G _) ob_6.1 (fun _ => en0 ob_6.2) rfl rfl dX4_mended_74 (s0_wears ob_6 h) (gV tbc kM_RX4_142_X0_wears kI_X0_wears kS_X0_wears kN_RX0 kC_X0_wears) rfl (by decide +kernel) ⟨Nat.le_of_ble_eq_true rfl, Nat.le_of_ble_eq_true rfl⟩ rfl rfl (Nat.le_of_ble_eq_true rfl) ⟨Nat.le_refl 0, Nat.le_refl 0⟩ (fun M h => ?_)
      refine a_aload_n dX4_mended_77 2 rfl ?_
      refine a_get2 dX4_mended_78 1 (by decide) (tbc _ kF_RX4_16) (fun w h => tbc _ (uW2 w h)) rfl ob_0 rfl ?_
      refine a_iload_n dX4_mended_81 4 rfl ?_
      refine a_callVv (n := 1) [.int _] (C := RX0) (ci := 0) (qc := (RX0, TX0, 9)) (fsF := fl0 G _) ob_6.1 (fun _ => en0 ob_6.2) rfl rfl dX4_mended_82 (s0_goesOn ob_6 h) (gV tbc kM_RX4_155_X0_goesOn kI_X0_goesOn kS_X0_goesOn kN_RX0 kC_X0_goesOn) rfl (by decide +kernel) ⟨Nat.le_of_ble_eq_true rfl, Nat.le_of_ble_eq_true rfl⟩ rfl rfl (Nat.le_of_ble_eq_true rfl) ⟨Nat.le_refl 0, Nat.le_refl 0⟩ (fun M h => ?_)
      refine a_aload_n dX4_mended_85 2 rfl ?_
      refine a_get2 dX4_mended_86 1 (by decide) (tbc _ kF_RX4_16) (fun w h => tbc _ (uW2 w h)) rfl ob_0 rfl ?_
      refine a_getN0 dX4_mended_89 7 (by decide) (fun _ h => h.2.2.2.1) (fun w h => tbc _ (uW0 w h)) rfl ob_6 rfl ?_
      refine a_iload dX4_mended_92 0 rfl ?_
      refine a_isub dX4_mended_94 ?_
      exact a_iret dX4_mended_95 ⟨_, rfl, h⟩
    · have h := h.2 c
      refine a_ldcw dX4_mended_33 (tbc _ kK_RX4_276) ?_
      refine a_aload_n dX4_mended_36 1 rfl ?_
      refine a_iload_n dX4_mended_37 0 rfl ?_
      refine a_callVi (n := 1) [.int _] (C := RX4) (ci := 2) (qc := (RX4, TX4, 12)) (fsF := fl2 G _) ob_0.1 (fun _ => en2 ob_0.2) rfl rfl dX4_mended_38 (s4_refused h) (gV tbc kM_RX4_43_X4_refused kI_X4_refused kS_X4_refused kN_RX4 kC_X4_refused) rfl (by decide +kernel) ⟨Nat.le_of_ble_eq_true rfl, Nat.le_of_ble_eq_true rfl⟩ rfl rfl (Nat.le_of_ble_eq_true rfl) ⟨Nat.le_refl 0, Nat.le_refl 0⟩ (fun r M h => ?_)
      refine a_isub dX4_mended_41 ?_
      exact a_iret dX4_mended_42 ⟨_, rfl, h⟩
  · have h := h.2 c
    refine a_ldcw dX4_mended_11 (tbc _ kK_RX4_276) ?_
    refine a_aload_n dX4_mended_14 0 rfl ?_
    refine a_iconst (v := -1) dX4_mended_15 (by decide) ?_
    refine a_callVi (n := 1) [.int _] (C := RX4) (ci := 2) (qc := (RX4, TX4, 12)) (fsF := fl2 G _) ob_0.1 (fun _ => en2 ob_0.2) rfl rfl dX4_mended_16 (s4_refused h) (gV tbc kM_RX4_43_X4_refused kI_X4_refused kS_X4_refused kN_RX4 kC_X4_refused) rfl (by decide +kernel) ⟨Nat.le_of_ble_eq_true rfl, Nat.le_of_ble_eq_true rfl⟩ rfl rfl (Nat.le_of_ble_eq_true rfl) ⟨Nat.le_refl 0, Nat.le_refl 0⟩ (fun r M h => ?_)
    refine a_isub dX4_mended_19 ?_
    exact a_iret dX4_mended_20 ⟨_, rfl, h⟩

/-! X4_stepsBy -/
theorem dX4_stepsBy_0 : decode cX4_stepsBy 0 = .ok (.iload_n 2, 1) := by decide +kernel
theorem dX4_stepsBy_1 : decode cX4_stepsBy 1 = .ok (.iconst 1, 1) := by decide +kernel
theorem dX4_stepsBy_2 : decode cX4_stepsBy 2 = .ok (.iload_n 3, 1) := by decide +kernel
theorem dX4_stepsBy_3 : decode cX4_stepsBy 3 = .ok (.ishl, 1) := by decide +kernel
theorem dX4_stepsBy_4 : decode cX4_stepsBy 4 = .ok (.iconst (-1), 1) := by decide +kernel
theorem dX4_stepsBy_5 : decode cX4_stepsBy 5 = .ok (.ixor, 1) := by decide +kernel
theorem dX4_stepsBy_6 : decode cX4_stepsBy 6 = .ok (.iand, 1) := by decide +kernel
theorem dX4_stepsBy_7 : decode cX4_stepsBy 7 = .ok (.bipush 8, 2) := by decide +kernel
theorem dX4_stepsBy_9 : decode cX4_stepsBy 9 = .ok (.imul, 1) := by decide +kernel
theorem dX4_stepsBy_10 : decode cX4_stepsBy 10 = .ok (.iload_n 3, 1) := by decide +kernel
theorem dX4_stepsBy_11 : decode cX4_stepsBy 11 = .ok (.iadd, 1) := by decide +kernel
theorem dX4_stepsBy_12 : decode cX4_stepsBy 12 = .ok (.istore 4, 2) := by decide +kernel
theorem dX4_stepsBy_14 : decode cX4_stepsBy 14 = .ok (.iload 4, 2) := by decide +kernel
theorem dX4_stepsBy_16 : decode cX4_stepsBy 16 = .ok (.ifCond .lt 21, 3) := by decide +kernel
theorem dX4_stepsBy_19 : decode cX4_stepsBy 19 = .ok (.iload 4, 2) := by decide +kernel
theorem dX4_stepsBy_21 : decode cX4_stepsBy 21 = .ok (.sipush 2048, 3) := by decide +kernel
theorem dX4_stepsBy_24 : decode cX4_stepsBy 24 = .ok (.if_icmp .ge 13, 3) := by decide +kernel
theorem dX4_stepsBy_27 : decode cX4_stepsBy 27 = .ok (.aload_n 0, 1) := by decide +kernel
theorem dX4_stepsBy_28 : decode cX4_stepsBy 28 = .ok (.getfield 40, 3) := by decide +kernel
theorem dX4_stepsBy_31 : decode cX4_stepsBy 31 = .ok (.iload 4, 2) := by decide +kernel
theorem dX4_stepsBy_33 : decode cX4_stepsBy 33 = .ok (.iaload, 1) := by decide +kernel
theorem dX4_stepsBy_34 : decode cX4_stepsBy 34 = .ok (.goto 4, 3) := by decide +kernel
theorem dX4_stepsBy_37 : decode cX4_stepsBy 37 = .ok (.iconst 0, 1) := by decide +kernel
theorem dX4_stepsBy_38 : decode cX4_stepsBy 38 = .ok (.istore 5, 2) := by decide +kernel
theorem dX4_stepsBy_40 : decode cX4_stepsBy 40 = .ok (.iload_n 1, 1) := by decide +kernel
theorem dX4_stepsBy_41 : decode cX4_stepsBy 41 = .ok (.aload_n 0, 1) := by decide +kernel
theorem dX4_stepsBy_42 : decode cX4_stepsBy 42 = .ok (.getfield 10, 3) := by decide +kernel
theorem dX4_stepsBy_45 : decode cX4_stepsBy 45 = .ok (.iload_n 3, 1) := by decide +kernel
theorem dX4_stepsBy_46 : decode cX4_stepsBy 46 = .ok (.invokevirtual 90, 3) := by decide +kernel
theorem dX4_stepsBy_49 : decode cX4_stepsBy 49 = .ok (.invokestatic 308, 3) := by decide +kernel
theorem dX4_stepsBy_52 : decode cX4_stepsBy 52 = .ok (.iload 5, 2) := by decide +kernel
theorem dX4_stepsBy_54 : decode cX4_stepsBy 54 = .ok (.iadd, 1) := by decide +kernel
theorem dX4_stepsBy_55 : decode cX4_stepsBy 55 = .ok (.ireturn, 1) := by decide +kernel
abbrev A4_stepsBy (G : GG) (Q : Int32 → MM → Prop) := AW G E0 (MZ G (qI Q)) (WY yX4_stepsBy cX4_stepsBy 6 (some .int)) RX4 cX4_stepsBy 6 (some .int) ({ frames := 2, cells := 0, slots := 0, locals := 42 } : Room) 0 0
def D4_stepsBy_c38 (Q : Int32 → MM → Prop) (x1 : Int32) (x3 : Int32) (s0 : Int32) (M : MM) : Prop := D0_cellOf 1 x3 M (fun (r2 : Int32) (M3 : MM) => D3_steps x1 r2 M3 (fun (r4 : Int32) (M5 : MM) => Q (r4 + s0) M5))
def D4_stepsBy_c37 (Q : Int32 → MM → Prop) (x1 : Int32) (x3 : Int32) (M : MM) : Prop := D4_stepsBy_c38 Q x1 x3 (0 : Int32) M
def D4_stepsBy (x1 : Int32) (x2 : Int32) (x3 : Int32) (M : MM) (Q : Int32 → MM → Prop) : Prop := (fun v1 : Int32 => ((v1 < 0 → D4_stepsBy_c37 Q x1 x3 M) ∧ (¬ v1 < 0 → (((2048 : Int32) ≤ v1 → D4_stepsBy_c37 Q x1 x3 M) ∧ (¬ (2048 : Int32) ≤ v1 → ib 61 v1 ∧ D4_stepsBy_c38 Q x1 x3 (M 61 (ix v1)) M))))) (((x2 &&& (((1 : Int32) <<< (x3 &&& 31)) ^^^ (-1 : Int32))) * (8 : Int32)) + x3)
set_option maxHeartbeats 4000000 in
set_option maxRecDepth 100000 in
theorem s4_stepsBy_c38 {G : GG} {Q : Int32 → MM → Prop} : ∀ (x1 : Int32) (x3 : Int32) (s0 : Int32) (M : MM), D4_stepsBy_c38 Q x1 x3 s0 M → A4_stepsBy G Q 38 [(0, .ref (gA G 0)), (1, .int x1), (3, .int x3)] [.int s0] M := by
  intro x1 x3 s0 M h
  unfold D4_stepsBy_c38 at h
  refine a_istore (i := 5) (L' := [(5, .int _), (0, .ref _), (1, .int _), (3, .int _)]) dX4_stepsBy_38 (by decide) rfl ?_
  refine a_iload_n dX4_stepsBy_40 2 rfl ?_
  refine a_aload_n dX4_stepsBy_41 1 rfl ?_
  refine a_get2 dX4_stepsBy_42 0 (by decide) (tbc _ kF_RX4_10) (fun w h => tbc _ (uW2 w h)) rfl ob_0 rfl ?_
  refine a_iload_n dX4_stepsBy_45 3 rfl ?_
  refine a_callVi (n := 1) [.int _] (C := RX0) (ci := 0) (qc := (RX0, TX0, 9)) (fsF := fl0 G _) ob_1.1 (fun _ => en0 ob_1.2) rfl rfl dX4_stepsBy_46 (s0_cellOf ob_1 h) (gV tbc kM_RX4_90_X0_cellOf kI_X0_cellOf kS_X0_cellOf kN_RX0 kC_X0_cellOf) rfl (by decide +kernel) ⟨Nat.le_of_ble_eq_true rfl, Nat.le_of_ble_eq_true rfl⟩ rfl rfl (Nat.le_of_ble_eq_true rfl) ⟨Nat.le_refl 0, Nat.le_refl 0⟩ (fun r M h => ?_)
  refine a_callSi (n := 2) [.int _, .int _] dX4_stepsBy_49 (s3_steps h) (gS tbc kM_RX4_308_X3_steps kT_X3_steps kN_RX3 kC_X3_steps) rfl (by decide +kernel) ⟨Nat.le_of_ble_eq_true rfl, Nat.le_of_ble_eq_true rfl⟩ rfl rfl (Nat.le_of_ble_eq_true rfl) ⟨Nat.le_refl 0, Nat.le_refl 0⟩ (fun r M h => ?_)
  refine a_iload dX4_stepsBy_52 0 rfl ?_
  refine a_iadd dX4_stepsBy_54 ?_
  exact a_iret dX4_stepsBy_55 ⟨_, rfl, h⟩
set_option maxHeartbeats 4000000 in
set_option maxRecDepth 100000 in
theorem s4_stepsBy_c37 {G : GG} {Q : Int32 → MM → Prop} : ∀ (x1 : Int32) (x3 : Int32) (M : MM), D4_stepsBy_c37 Q x1 x3 M → A4_stepsBy G Q 37 [(0, .ref (gA G 0)), (1, .int x1), (3, .int x3)] [] M := by
  intro x1 x3 M h
  unfold D4_stepsBy_c37 at h
  refine a_iconst (v := 0) dX4_stepsBy_37 (by decide) ?_
  refine a_sub [0, 1, 2] rfl ?_
  exact s4_stepsBy_c38 _ _ _ _ h
set_option maxHeartbeats 4000000 in
set_option maxRecDepth 100000 in
theorem s4_stepsBy {G : GG} {x1 : Int32} {x2 : Int32} {x3 : Int32} {M : MM} {Q : Int32 → MM → Prop} (h : D4_stepsBy x1 x2 x3 M Q) : CM G yX4_stepsBy (WY yX4_stepsBy cX4_stepsBy 6 (some .int)) 2 42 [.ref (gA G 0), .int x1, .int x2, .int x3] M (qI Q) := by
  refine CM.of (cc := cX4_stepsBy) (nL := 6) (ret := (some .int)) (own := RX4) (by decide +kernel) rfl rfl (Nat.le_of_ble_eq_true rfl) ?_
  show A4_stepsBy G Q 0 [(0, .ref (gA G 0)), (1, .int x1), (2, .int x2), (3, .int x3)] [] M
  unfold D4_stepsBy at h
  refine a_iload_n dX4_stepsBy_0 2 rfl ?_
  refine a_iconst (v := 1) dX4_stepsBy_1 (by decide) ?_
  refine a_iload_n dX4_stepsBy_2 3 rfl ?_
  refine a_ishl dX4_stepsBy_3 ?_
  refine a_iconst (v := -1) dX4_stepsBy_4 (by decide) ?_
  refine a_ixor dX4_stepsBy_5 ?_
  refine a_iand dX4_stepsBy_6 ?_
  refine a_bipush (v := 8) dX4_stepsBy_7 (by decide) ?_
  refine a_imul dX4_stepsBy_9 ?_
  refine a_iload_n dX4_stepsBy_10 3 rfl ?_
  refine a_iadd dX4_stepsBy_11 ?_
  refine a_istore (i := 4) (L' := [(4, .int _), (0, .ref _), (1, .int _), (2, .int _), (3, .int _)]) dX4_stepsBy_12 (by decide) rfl ?_
  refine a_iload dX4_stepsBy_14 0 rfl ?_
  refine a_if_lt (tgt := 37) dX4_stepsBy_16 (by decide) (fun c => ?_) (fun c => ?_)
  · have h := h.1 c
    refine a_sub [1, 2, 4] rfl ?_
    exact s4_stepsBy_c37 _ _ _ h
  · have h := h.2 c
    refine a_iload dX4_stepsBy_19 0 rfl ?_
    refine a_sipush (v := 2048) dX4_stepsBy_21 (by decide) ?_
    refine a_icmp_ge (tgt := 37) dX4_stepsBy_24 (by decide) (fun c => ?_) (fun c => ?_)
    · have h := h.1 c
      refine a_sub [1, 2, 4] rfl ?_
      exact s4_stepsBy_c37 _ _ _ h
    · have h := h.2 c
      refine a_aload_n dX4_stepsBy_27 1 rfl ?_
      refine a_get2 dX4_stepsBy_28 7 (by decide) (tbc _ kF_RX4_40) (fun w h => tbc _ (uW2 w h)) rfl ob_0 rfl ?_
      refine a_iload dX4_stepsBy_31 0 rfl ?_
      refine a_iald dX4_stepsBy_33 h.1 ?_
      have h := h.2
      refine a_goto (tgt := 38) dX4_stepsBy_34 (by decide) ?_
      refine a_sub [1, 2, 4] rfl ?_
      exact s4_stepsBy_c38 _ _ _ _ h

/-! X4_nextStop -/
theorem dX4_nextStop_0 : decode cX4_nextStop 0 = .ok (.bipush (-9), 2) := by decide +kernel
theorem dX4_nextStop_2 : decode cX4_nextStop 2 = .ok (.istore_n 3, 1) := by decide +kernel
theorem dX4_nextStop_3 : decode cX4_nextStop 3 = .ok (.ldc_w 294, 3) := by decide +kernel
theorem dX4_nextStop_6 : decode cX4_nextStop 6 = .ok (.istore 4, 2) := by decide +kernel
theorem dX4_nextStop_8 : decode cX4_nextStop 8 = .ok (.iconst 0, 1) := by decide +kernel
theorem dX4_nextStop_9 : decode cX4_nextStop 9 = .ok (.istore 5, 2) := by decide +kernel
theorem dX4_nextStop_11 : decode cX4_nextStop 11 = .ok (.iload 5, 2) := by decide +kernel
theorem dX4_nextStop_13 : decode cX4_nextStop 13 = .ok (.bipush 8, 2) := by decide +kernel
theorem dX4_nextStop_15 : decode cX4_nextStop 15 = .ok (.if_icmp .ge 42, 3) := by decide +kernel
theorem dX4_nextStop_18 : decode cX4_nextStop 18 = .ok (.iload_n 2, 1) := by decide +kernel
theorem dX4_nextStop_19 : decode cX4_nextStop 19 = .ok (.iload 5, 2) := by decide +kernel
theorem dX4_nextStop_21 : decode cX4_nextStop 21 = .ok (.ishr, 1) := by decide +kernel
theorem dX4_nextStop_22 : decode cX4_nextStop 22 = .ok (.iconst 1, 1) := by decide +kernel
theorem dX4_nextStop_23 : decode cX4_nextStop 23 = .ok (.iand, 1) := by decide +kernel
theorem dX4_nextStop_24 : decode cX4_nextStop 24 = .ok (.ifCond .eq 27, 3) := by decide +kernel
theorem dX4_nextStop_27 : decode cX4_nextStop 27 = .ok (.aload_n 0, 1) := by decide +kernel
theorem dX4_nextStop_28 : decode cX4_nextStop 28 = .ok (.iload_n 1, 1) := by decide +kernel
theorem dX4_nextStop_29 : decode cX4_nextStop 29 = .ok (.iload_n 2, 1) := by decide +kernel
theorem dX4_nextStop_30 : decode cX4_nextStop 30 = .ok (.iload 5, 2) := by decide +kernel
theorem dX4_nextStop_32 : decode cX4_nextStop 32 = .ok (.invokevirtual 305, 3) := by decide +kernel
theorem dX4_nextStop_35 : decode cX4_nextStop 35 = .ok (.istore 6, 2) := by decide +kernel
theorem dX4_nextStop_37 : decode cX4_nextStop 37 = .ok (.iload 6, 2) := by decide +kernel
theorem dX4_nextStop_39 : decode cX4_nextStop 39 = .ok (.iload 4, 2) := by decide +kernel
theorem dX4_nextStop_41 : decode cX4_nextStop 41 = .ok (.if_icmp .ge 10, 3) := by decide +kernel
theorem dX4_nextStop_44 : decode cX4_nextStop 44 = .ok (.iload 5, 2) := by decide +kernel
theorem dX4_nextStop_46 : decode cX4_nextStop 46 = .ok (.istore_n 3, 1) := by decide +kernel
theorem dX4_nextStop_47 : decode cX4_nextStop 47 = .ok (.iload 6, 2) := by decide +kernel
theorem dX4_nextStop_49 : decode cX4_nextStop 49 = .ok (.istore 4, 2) := by decide +kernel
theorem dX4_nextStop_51 : decode cX4_nextStop 51 = .ok (.iinc 5 1, 3) := by decide +kernel
theorem dX4_nextStop_54 : decode cX4_nextStop 54 = .ok (.goto (-43), 3) := by decide +kernel
theorem dX4_nextStop_57 : decode cX4_nextStop 57 = .ok (.iload_n 3, 1) := by decide +kernel
theorem dX4_nextStop_58 : decode cX4_nextStop 58 = .ok (.ireturn, 1) := by decide +kernel
abbrev A4_nextStop (G : GG) (Q : Int32 → MM → Prop) := AW G E0 (MZ G (qI Q)) (WY yX4_nextStop cX4_nextStop 7 (some .int)) RX4 cX4_nextStop 7 (some .int) ({ frames := 3, cells := 0, slots := 0, locals := 67 } : Room) 0 0
def D4_nextStop_c51 (K11 : Int32 → Int32 → Int32 → Int32 → Int32 → MM → Prop) (Q : Int32 → MM → Prop) (x1 : Int32) (x2 : Int32) (x3 : Int32) (x4 : Int32) (x5 : Int32) (M : MM) : Prop := (fun v3 : Int32 => K11 x1 x2 x3 x4 v3 M) (x5 + (1 : Int32))
def D4_nextStop_c11 (Q : Int32 → MM → Prop) : Nat → Int32 → Int32 → Int32 → Int32 → Int32 → MM → Prop
  | 0, _, _, _, _, _, _ => False
  | n + 1, x1, x2, x3, x4, x5, M => (((8 : Int32) ≤ x5 → Q x3 M) ∧ (¬ (8 : Int32) ≤ x5 → ((((x2 >>> (x5 &&& 31)) &&& (1 : Int32)) = 0 → D4_nextStop_c51 (D4_nextStop_c11 Q n) Q x1 x2 x3 x4 x5 M) ∧ (¬ ((x2 >>> (x5 &&& 31)) &&& (1 : Int32)) = 0 → D4_stepsBy x1 x2 x5 M (fun (r1 : Int32) (M2 : MM) => ((x4 ≤ r1 → D4_nextStop_c51 (D4_nextStop_c11 Q n) Q x1 x2 x3 x4 x5 M2) ∧ (¬ x4 ≤ r1 → D4_nextStop_c51 (D4_nextStop_c11 Q n) Q x1 x2 x5 r1 x5 M2)))))))
def D4_nextStop (x1 : Int32) (x2 : Int32) (M : MM) (Q : Int32 → MM → Prop) : Prop := D4_nextStop_c11 Q FU x1 x2 (-9 : Int32) (2147483647 : Int32) (0 : Int32) M
set_option maxHeartbeats 4000000 in
set_option maxRecDepth 100000 in
theorem s4_nextStop_c51 {G : GG} {K11 : Int32 → Int32 → Int32 → Int32 → Int32 → MM → Prop} {Q : Int32 → MM → Prop} (hK11 : ∀ (x1 : Int32) (x2 : Int32) (x3 : Int32) (x4 : Int32) (x5 : Int32) (M : MM), K11 x1 x2 x3 x4 x5 M → A4_nextStop G Q 11 [(0, .ref (gA G 0)), (1, .int x1), (2, .int x2), (3, .int x3), (4, .int x4), (5, .int x5)] [] M) : ∀ (x1 : Int32) (x2 : Int32) (x3 : Int32) (x4 : Int32) (x5 : Int32) (M : MM), D4_nextStop_c51 K11 Q x1 x2 x3 x4 x5 M → A4_nextStop G Q 51 [(0, .ref (gA G 0)), (1, .int x1), (2, .int x2), (3, .int x3), (4, .int x4), (5, .int x5)] [] M := by
  intro x1 x2 x3 x4 x5 M h
  unfold D4_nextStop_c51 at h
  refine a_iinc (L' := [(5, .int _), (0, .ref _), (1, .int _), (2, .int _), (3, .int _), (4, .int _)]) dX4_nextStop_51 5 rfl (show _ + Int32.ofInt (1 : Int) = _ + (1 : Int32) from rfl) (by decide) rfl ?_
  refine a_goto (tgt := 11) dX4_nextStop_54 (by decide) ?_
  refine a_sub [1, 2, 3, 4, 5, 0] rfl ?_
  exact hK11 _ _ _ _ _ _ h
set_option maxHeartbeats 4000000 in
set_option maxRecDepth 100000 in
theorem s4_nextStop_c11 {G : GG} {Q : Int32 → MM → Prop} : ∀ (n : Nat) (x1 : Int32) (x2 : Int32) (x3 : Int32) (x4 : Int32) (x5 : Int32) (M : MM), D4_nextStop_c11 Q n x1 x2 x3 x4 x5 M → A4_nextStop G Q 11 [(0, .ref (gA G 0)), (1, .int x1), (2, .int x2), (3, .int x3), (4, .int x4), (5, .int x5)] [] M := by
  intro n
  induction n with
  | zero => intro x1 x2 x3 x4 x5 M h; exact h.elim
  | succ n ih =>
    intro x1 x2 x3 x4 x5 M h
    unfold D4_nextStop_c11 at h
    refine a_iload dX4_nextStop_11 5 rfl ?_
    refine a_bipush (v := 8) dX4_nextStop_13 (by decide) ?_
    refine a_icmp_ge (tgt := 57) dX4_nextStop_15 (by decide) (fun c => ?_) (fun c => ?_)
    · have h := h.1 c
      refine a_iload_n dX4_nextStop_57 3 rfl ?_
      exact a_iret dX4_nextStop_58 ⟨_, rfl, h⟩
    · have h := h.2 c
      refine a_iload_n dX4_nextStop_18 2 rfl ?_
      refine a_iload dX4_nextStop_19 5 rfl ?_
      refine a_ishr dX4_nextStop_21 ?_
      refine a_iconst (v := 1) dX4_nextStop_22 (by decide) ?_
      refine a_iand dX4_nextStop_23 ?_
      refine a_if_eq (tgt := 51) dX4_nextStop_24 (by decide) (fun c => ?_) (fun c => ?_)
      · have h := h.1 c
        refine a_sub [0, 1, 2, 3, 4, 5] rfl ?_
        exact s4_nextStop_c51 ih _ _ _ _ _ _ h
      · have h := h.2 c
        refine a_aload_n dX4_nextStop_27 0 rfl ?_
        refine a_iload_n dX4_nextStop_28 1 rfl ?_
        refine a_iload_n dX4_nextStop_29 2 rfl ?_
        refine a_iload dX4_nextStop_30 5 rfl ?_
        refine a_callVi (n := 3) [.int _, .int _, .int _] (C := RX4) (ci := 2) (qc := (RX4, TX4, 12)) (fsF := fl2 G _) ob_0.1 (fun _ => en2 ob_0.2) rfl rfl dX4_nextStop_32 (s4_stepsBy h) (gV tbc kM_RX4_305_X4_stepsBy kI_X4_stepsBy kS_X4_stepsBy kN_RX4 kC_X4_stepsBy) rfl (by decide +kernel) ⟨Nat.le_of_ble_eq_true rfl, Nat.le_of_ble_eq_true rfl⟩ rfl rfl (Nat.le_of_ble_eq_true rfl) ⟨Nat.le_refl 0, Nat.le_refl 0⟩ (fun r M h => ?_)
        refine a_istore (i := 6) (L' := [(6, .int _), (0, .ref _), (1, .int _), (2, .int _), (3, .int _), (4, .int _), (5, .int _)]) dX4_nextStop_35 (by decide) rfl ?_
        refine a_iload dX4_nextStop_37 0 rfl ?_
        refine a_iload dX4_nextStop_39 5 rfl ?_
        refine a_icmp_ge (tgt := 51) dX4_nextStop_41 (by decide) (fun c => ?_) (fun c => ?_)
        · have h := h.1 c
          refine a_sub [1, 2, 3, 4, 5, 6] rfl ?_
          exact s4_nextStop_c51 ih _ _ _ _ _ _ h
        · have h := h.2 c
          refine a_iload dX4_nextStop_44 6 rfl ?_
          refine a_istore_n (i := 3) (L' := [(3, .int _), (6, .int _), (0, .ref _), (1, .int _), (2, .int _), (4, .int _), (5, .int _)]) dX4_nextStop_46 rfl (by decide) rfl ?_
          refine a_iload dX4_nextStop_47 1 rfl ?_
          refine a_istore (i := 4) (L' := [(4, .int _), (3, .int _), (6, .int _), (0, .ref _), (1, .int _), (2, .int _), (5, .int _)]) dX4_nextStop_49 (by decide) rfl ?_
          refine a_sub [3, 4, 5, 1, 0, 6] rfl ?_
          exact s4_nextStop_c51 ih _ _ _ _ _ _ h
set_option maxHeartbeats 4000000 in
set_option maxRecDepth 100000 in
theorem s4_nextStop {G : GG} {x1 : Int32} {x2 : Int32} {M : MM} {Q : Int32 → MM → Prop} (h : D4_nextStop x1 x2 M Q) : CM G yX4_nextStop (WY yX4_nextStop cX4_nextStop 7 (some .int)) 3 67 [.ref (gA G 0), .int x1, .int x2] M (qI Q) := by
  refine CM.of (cc := cX4_nextStop) (nL := 7) (ret := (some .int)) (own := RX4) (by decide +kernel) rfl rfl (Nat.le_of_ble_eq_true rfl) ?_
  show A4_nextStop G Q 0 [(0, .ref (gA G 0)), (1, .int x1), (2, .int x2)] [] M
  unfold D4_nextStop at h
  refine a_bipush (v := -9) dX4_nextStop_0 (by decide) ?_
  refine a_istore_n (i := 3) (L' := [(3, .int _), (0, .ref _), (1, .int _), (2, .int _)]) dX4_nextStop_2 rfl (by decide) rfl ?_
  refine a_ldcw dX4_nextStop_3 (tbc _ kK_RX4_294) ?_
  refine a_istore (i := 4) (L' := [(4, .int _), (3, .int _), (0, .ref _), (1, .int _), (2, .int _)]) dX4_nextStop_6 (by decide) rfl ?_
  refine a_iconst (v := 0) dX4_nextStop_8 (by decide) ?_
  refine a_istore (i := 5) (L' := [(5, .int _), (4, .int _), (3, .int _), (0, .ref _), (1, .int _), (2, .int _)]) dX4_nextStop_9 (by decide) rfl ?_
  refine a_sub [3, 4, 5, 2, 1, 0] rfl ?_
  exact s4_nextStop_c11 _ _ _ _ _ _ _ h

/-! X4_payingFor -/
theorem dX4_payingFor_0 : decode cX4_payingFor 0 = .ok (.aload_n 0, 1) := by decide +kernel
theorem dX4_payingFor_1 : decode cX4_payingFor 1 = .ok (.getfield 16, 3) := by decide +kernel
theorem dX4_payingFor_4 : decode cX4_payingFor 4 = .ok (.aload_n 0, 1) := by decide +kernel
theorem dX4_payingFor_5 : decode cX4_payingFor 5 = .ok (.getfield 10, 3) := by decide +kernel
theorem dX4_payingFor_8 : decode cX4_payingFor 8 = .ok (.invokevirtual 65, 3) := by decide +kernel
theorem dX4_payingFor_11 : decode cX4_payingFor 11 = .ok (.iconst 0, 1) := by decide +kernel
theorem dX4_payingFor_12 : decode cX4_payingFor 12 = .ok (.istore_n 2, 1) := by decide +kernel
theorem dX4_payingFor_13 : decode cX4_payingFor 13 = .ok (.iload_n 2, 1) := by decide +kernel
theorem dX4_payingFor_14 : decode cX4_payingFor 14 = .ok (.bipush 6, 2) := by decide +kernel
theorem dX4_payingFor_16 : decode cX4_payingFor 16 = .ok (.if_icmp .ge 18, 3) := by decide +kernel
theorem dX4_payingFor_19 : decode cX4_payingFor 19 = .ok (.aload_n 0, 1) := by decide +kernel
theorem dX4_payingFor_20 : decode cX4_payingFor 20 = .ok (.getfield 16, 3) := by decide +kernel
theorem dX4_payingFor_23 : decode cX4_payingFor 23 = .ok (.iconst 0, 1) := by decide +kernel
theorem dX4_payingFor_24 : decode cX4_payingFor 24 = .ok (.iload_n 1, 1) := by decide +kernel
theorem dX4_payingFor_25 : decode cX4_payingFor 25 = .ok (.invokevirtual 251, 3) := by decide +kernel
theorem dX4_payingFor_28 : decode cX4_payingFor 28 = .ok (.iinc 2 1, 3) := by decide +kernel
theorem dX4_payingFor_31 : decode cX4_payingFor 31 = .ok (.goto (-18), 3) := by decide +kernel
theorem dX4_payingFor_34 : decode cX4_payingFor 34 = .ok (.return_, 1) := by decide +kernel
abbrev A4_payingFor (G : GG) (Q : MM → Prop) := AW G E0 (MZ G (qV Q)) (WY yX4_payingFor cX4_payingFor 3 none) RX4 cX4_payingFor 3 none ({ frames := 3, cells := 0, slots := 0, locals := 72 } : Room) 0 0
def D4_payingFor_c13 (Q : MM → Prop) : Nat → Int32 → Int32 → MM → Prop
  | 0, _, _, _ => False
  | n + 1, x1, x2, M => (((6 : Int32) ≤ x2 → Q M) ∧ (¬ (6 : Int32) ≤ x2 → D0_anHour 6 (0 : Int32) x1 M (fun (M4 : MM) => (fun v5 : Int32 => D4_payingFor_c13 Q n x1 v5 M4) (x2 + (1 : Int32)))))
def D4_payingFor (x1 : Int32) (M : MM) (Q : MM → Prop) : Prop := D0_becomes 6 1 M (fun (M2 : MM) => D4_payingFor_c13 Q FU x1 (0 : Int32) M2)
set_option maxHeartbeats 4000000 in
set_option maxRecDepth 100000 in
theorem s4_payingFor_c13 {G : GG} {Q : MM → Prop} : ∀ (n : Nat) (x1 : Int32) (x2 : Int32) (M : MM), D4_payingFor_c13 Q n x1 x2 M → A4_payingFor G Q 13 [(0, .ref (gA G 0)), (1, .int x1), (2, .int x2)] [] M := by
  intro n
  induction n with
  | zero => intro x1 x2 M h; exact h.elim
  | succ n ih =>
    intro x1 x2 M h
    unfold D4_payingFor_c13 at h
    refine a_iload_n dX4_payingFor_13 2 rfl ?_
    refine a_bipush (v := 6) dX4_payingFor_14 (by decide) ?_
    refine a_icmp_ge (tgt := 34) dX4_payingFor_16 (by decide) (fun c => ?_) (fun c => ?_)
    · have h := h.1 c
      exact a_vret dX4_payingFor_34 ⟨rfl, h⟩
    · have h := h.2 c
      refine a_aload_n dX4_payingFor_19 0 rfl ?_
      refine a_get2 dX4_payingFor_20 1 (by decide) (tbc _ kF_RX4_16) (fun w h => tbc _ (uW2 w h)) rfl ob_0 rfl ?_
      refine a_iconst (v := 0) dX4_payingFor_23 (by decide) ?_
      refine a_iload_n dX4_payingFor_24 1 rfl ?_
      refine a_callVv (n := 2) [.int _, .int _] (C := RX0) (ci := 0) (qc := (RX0, TX0, 9)) (fsF := fl0 G _) ob_6.1 (fun _ => en0 ob_6.2) rfl rfl dX4_payingFor_25 (s0_anHour ob_6 h) (gV tbc kM_RX4_251_X0_anHour kI_X0_anHour kS_X0_anHour kN_RX0 kC_X0_anHour) rfl (by decide +kernel) ⟨Nat.le_of_ble_eq_true rfl, Nat.le_of_ble_eq_true rfl⟩ rfl rfl (Nat.le_of_ble_eq_true rfl) ⟨Nat.le_refl 0, Nat.le_refl 0⟩ (fun M h => ?_)
      refine a_iinc (L' := [(2, .int _), (0, .ref _), (1, .int _)]) dX4_payingFor_28 2 rfl (show _ + Int32.ofInt (1 : Int) = _ + (1 : Int32) from rfl) (by decide) rfl ?_
      refine a_goto (tgt := 13) dX4_payingFor_31 (by decide) ?_
      refine a_sub [1, 2, 0] rfl ?_
      exact ih _ _ _ h
set_option maxHeartbeats 4000000 in
set_option maxRecDepth 100000 in
theorem s4_payingFor {G : GG} {x1 : Int32} {M : MM} {Q : MM → Prop} (h : D4_payingFor x1 M Q) : CM G yX4_payingFor (WY yX4_payingFor cX4_payingFor 3 none) 3 72 [.ref (gA G 0), .int x1] M (qV Q) := by
  refine CM.of (cc := cX4_payingFor) (nL := 3) (ret := none) (own := RX4) (by decide +kernel) rfl rfl (Nat.le_of_ble_eq_true rfl) ?_
  show A4_payingFor G Q 0 [(0, .ref (gA G 0)), (1, .int x1)] [] M
  unfold D4_payingFor at h
  refine a_aload_n dX4_payingFor_0 0 rfl ?_
  refine a_get2 dX4_payingFor_1 1 (by decide) (tbc _ kF_RX4_16) (fun w h => tbc _ (uW2 w h)) rfl ob_0 rfl ?_
  refine a_aload_n dX4_payingFor_4 0 rfl ?_
  refine a_get2 dX4_payingFor_5 0 (by decide) (tbc _ kF_RX4_10) (fun w h => tbc _ (uW2 w h)) rfl ob_0 rfl ?_
  refine a_callVv (n := 1) [.ref _] (C := RX0) (ci := 0) (qc := (RX0, TX0, 9)) (fsF := fl0 G _) ob_6.1 (fun _ => en0 ob_6.2) rfl rfl dX4_payingFor_8 (s0_becomes ob_6 ob_1 h) (gV tbc kM_RX4_65_X0_becomes kI_X0_becomes kS_X0_becomes kN_RX0 kC_X0_becomes) rfl (by decide +kernel) ⟨Nat.le_of_ble_eq_true rfl, Nat.le_of_ble_eq_true rfl⟩ rfl rfl (Nat.le_of_ble_eq_true rfl) ⟨Nat.le_refl 0, Nat.le_refl 0⟩ (fun M h => ?_)
  refine a_iconst (v := 0) dX4_payingFor_11 (by decide) ?_
  refine a_istore_n (i := 2) (L' := [(2, .int _), (0, .ref _), (1, .int _)]) dX4_payingFor_12 rfl (by decide) rfl ?_
  refine a_sub [1, 2, 0] rfl ?_
  exact s4_payingFor_c13 _ _ _ _ h

/-! X4_owedOf -/
theorem dX4_owedOf_0 : decode cX4_owedOf 0 = .ok (.aload_n 0, 1) := by decide +kernel
theorem dX4_owedOf_1 : decode cX4_owedOf 1 = .ok (.iload_n 1, 1) := by decide +kernel
theorem dX4_owedOf_2 : decode cX4_owedOf 2 = .ok (.invokevirtual 311, 3) := by decide +kernel
theorem dX4_owedOf_5 : decode cX4_owedOf 5 = .ok (.aload_n 0, 1) := by decide +kernel
theorem dX4_owedOf_6 : decode cX4_owedOf 6 = .ok (.getfield 16, 3) := by decide +kernel
theorem dX4_owedOf_9 : decode cX4_owedOf 9 = .ok (.getfield 146, 3) := by decide +kernel
theorem dX4_owedOf_12 : decode cX4_owedOf 12 = .ok (.ireturn, 1) := by decide +kernel
abbrev A4_owedOf (G : GG) (Q : Int32 → MM → Prop) := AW G E0 (MZ G (qI Q)) (WY yX4_owedOf cX4_owedOf 2 (some .int)) RX4 cX4_owedOf 2 (some .int) ({ frames := 4, cells := 0, slots := 0, locals := 94 } : Room) 0 0
def D4_owedOf (x1 : Int32) (M : MM) (Q : Int32 → MM → Prop) : Prop := D4_payingFor x1 M (fun (M2 : MM) => Q (M2 6 8) M2)
set_option maxHeartbeats 4000000 in
set_option maxRecDepth 100000 in
theorem s4_owedOf {G : GG} {x1 : Int32} {M : MM} {Q : Int32 → MM → Prop} (h : D4_owedOf x1 M Q) : CM G yX4_owedOf (WY yX4_owedOf cX4_owedOf 2 (some .int)) 4 94 [.ref (gA G 0), .int x1] M (qI Q) := by
  refine CM.of (cc := cX4_owedOf) (nL := 2) (ret := (some .int)) (own := RX4) (by decide +kernel) rfl rfl (Nat.le_of_ble_eq_true rfl) ?_
  show A4_owedOf G Q 0 [(0, .ref (gA G 0)), (1, .int x1)] [] M
  unfold D4_owedOf at h
  refine a_aload_n dX4_owedOf_0 0 rfl ?_
  refine a_iload_n dX4_owedOf_1 1 rfl ?_
  refine a_callVv (n := 1) [.int _] (C := RX4) (ci := 2) (qc := (RX4, TX4, 12)) (fsF := fl2 G _) ob_0.1 (fun _ => en2 ob_0.2) rfl rfl dX4_owedOf_2 (s4_payingFor h) (gV tbc kM_RX4_311_X4_payingFor kI_X4_payingFor kS_X4_payingFor kN_RX4 kC_X4_payingFor) rfl (by decide +kernel) ⟨Nat.le_of_ble_eq_true rfl, Nat.le_of_ble_eq_true rfl⟩ rfl rfl (Nat.le_of_ble_eq_true rfl) ⟨Nat.le_refl 0, Nat.le_refl 0⟩ (fun M h => ?_)
  refine a_aload_n dX4_owedOf_5 0 rfl ?_
  refine a_get2 dX4_owedOf_6 1 (by decide) (tbc _ kF_RX4_16) (fun w h => tbc _ (uW2 w h)) rfl ob_0 rfl ?_
  refine a_getN0 dX4_owedOf_9 8 (by decide) (fun _ h => h.2.1) (fun w h => tbc _ (uW0 w h)) rfl ob_6 rfl ?_
  exact a_iret dX4_owedOf_12 ⟨_, rfl, h⟩

/-! X4_pairs -/
theorem dX4_pairs_0 : decode cX4_pairs 0 = .ok (.iload_n 1, 1) := by decide +kernel
theorem dX4_pairs_1 : decode cX4_pairs 1 = .ok (.tableswitch 57 0 2 #[27, 35, 43], 27) := by decide +kernel
theorem dX4_pairs_28 : decode cX4_pairs 28 = .ok (.aload_n 0, 1) := by decide +kernel
theorem dX4_pairs_29 : decode cX4_pairs 29 = .ok (.getfield 10, 3) := by decide +kernel
theorem dX4_pairs_32 : decode cX4_pairs 32 = .ok (.invokevirtual 277, 3) := by decide +kernel
theorem dX4_pairs_35 : decode cX4_pairs 35 = .ok (.ireturn, 1) := by decide +kernel
theorem dX4_pairs_36 : decode cX4_pairs 36 = .ok (.aload_n 0, 1) := by decide +kernel
theorem dX4_pairs_37 : decode cX4_pairs 37 = .ok (.getfield 10, 3) := by decide +kernel
theorem dX4_pairs_40 : decode cX4_pairs 40 = .ok (.invokevirtual 280, 3) := by decide +kernel
theorem dX4_pairs_43 : decode cX4_pairs 43 = .ok (.ireturn, 1) := by decide +kernel
theorem dX4_pairs_44 : decode cX4_pairs 44 = .ok (.ldc_w 283, 3) := by decide +kernel
theorem dX4_pairs_47 : decode cX4_pairs 47 = .ok (.aload_n 0, 1) := by decide +kernel
theorem dX4_pairs_48 : decode cX4_pairs 48 = .ok (.getfield 10, 3) := by decide +kernel
theorem dX4_pairs_51 : decode cX4_pairs 51 = .ok (.invokevirtual 284, 3) := by decide +kernel
theorem dX4_pairs_54 : decode cX4_pairs 54 = .ok (.iconst (-1), 1) := by decide +kernel
theorem dX4_pairs_55 : decode cX4_pairs 55 = .ok (.ixor, 1) := by decide +kernel
theorem dX4_pairs_56 : decode cX4_pairs 56 = .ok (.iand, 1) := by decide +kernel
theorem dX4_pairs_57 : decode cX4_pairs 57 = .ok (.ireturn, 1) := by decide +kernel
theorem dX4_pairs_58 : decode cX4_pairs 58 = .ok (.aload_n 0, 1) := by decide +kernel
theorem dX4_pairs_59 : decode cX4_pairs 59 = .ok (.bipush (-2), 2) := by decide +kernel
theorem dX4_pairs_61 : decode cX4_pairs 61 = .ok (.invokevirtual 43, 3) := by decide +kernel
theorem dX4_pairs_64 : decode cX4_pairs 64 = .ok (.ireturn, 1) := by decide +kernel
abbrev A4_pairs (G : GG) (Q : Int32 → MM → Prop) := AW G E0 (MZ G (qI Q)) (WY yX4_pairs cX4_pairs 2 (some .int)) RX4 cX4_pairs 2 (some .int) ({ frames := 3, cells := 0, slots := 0, locals := 65 } : Room) 0 0
def D4_pairs (x1 : Int32) (M : MM) (Q : Int32 → MM → Prop) : Prop := ((x1 = 0 → D0_pairsBeside 1 M (fun (r1 : Int32) (M2 : MM) => Q r1 M2)) ∧ (¬ x1 = 0 → ((x1 = 1 → D0_spread 1 M (fun (r3 : Int32) (M4 : MM) => Q r3 M4)) ∧ (¬ x1 = 1 → ((x1 = 2 → D0_standingCells 1 M (fun (r5 : Int32) (M6 : MM) => Q ((33554431 : Int32) &&& (r5 ^^^ (-1 : Int32))) M6)) ∧ (¬ x1 = 2 → D4_refused (-2 : Int32) M (fun (r7 : Int32) (M8 : MM) => Q r7 M8)))))))
set_option maxHeartbeats 4000000 in
set_option maxRecDepth 100000 in
theorem s4_pairs {G : GG} {x1 : Int32} {M : MM} {Q : Int32 → MM → Prop} (h : D4_pairs x1 M Q) : CM G yX4_pairs (WY yX4_pairs cX4_pairs 2 (some .int)) 3 65 [.ref (gA G 0), .int x1] M (qI Q) := by
  refine CM.of (cc := cX4_pairs) (nL := 2) (ret := (some .int)) (own := RX4) (by decide +kernel) rfl rfl (Nat.le_of_ble_eq_true rfl) ?_
  show A4_pairs G Q 0 [(0, .ref (gA G 0)), (1, .int x1)] [] M
  unfold D4_pairs at h
  refine a_iload_n dX4_pairs_0 1 rfl ?_
  refine em_c h (fun c0 h => ?_) (fun c0 h => ?_)
  · refine a_tableIn (off := 27) (tgt := 28) dX4_pairs_1 (by rw [c0]; decide) (by rw [c0]; decide) (by rw [c0]; rfl) (by decide) ?_
    refine a_aload_n dX4_pairs_28 0 rfl ?_
    refine a_get2 dX4_pairs_29 0 (by decide) (tbc _ kF_RX4_10) (fun w h => tbc _ (uW2 w h)) rfl ob_0 rfl ?_
    refine a_callVi (n := 0) [] (C := RX0) (ci := 0) (qc := (RX0, TX0, 9)) (fsF := fl0 G _) ob_1.1 (fun _ => en0 ob_1.2) rfl rfl dX4_pairs_32 (s0_pairsBeside ob_1 h) (gV tbc kM_RX4_277_X0_pairsBeside kI_X0_pairsBeside kS_X0_pairsBeside kN_RX0 kC_X0_pairsBeside) rfl (by decide +kernel) ⟨Nat.le_of_ble_eq_true rfl, Nat.le_of_ble_eq_true rfl⟩ rfl rfl (Nat.le_of_ble_eq_true rfl) ⟨Nat.le_refl 0, Nat.le_refl 0⟩ (fun r M h => ?_)
    exact a_iret dX4_pairs_35 ⟨_, rfl, h⟩
  · refine em_c h (fun c1 h => ?_) (fun c1 h => ?_)
    · refine a_tableIn (off := 35) (tgt := 36) dX4_pairs_1 (by rw [c1]; decide) (by rw [c1]; decide) (by rw [c1]; rfl) (by decide) ?_
      refine a_aload_n dX4_pairs_36 0 rfl ?_
      refine a_get2 dX4_pairs_37 0 (by decide) (tbc _ kF_RX4_10) (fun w h => tbc _ (uW2 w h)) rfl ob_0 rfl ?_
      refine a_callVi (n := 0) [] (C := RX0) (ci := 0) (qc := (RX0, TX0, 9)) (fsF := fl0 G _) ob_1.1 (fun _ => en0 ob_1.2) rfl rfl dX4_pairs_40 (s0_spread ob_1 h) (gV tbc kM_RX4_280_X0_spread kI_X0_spread kS_X0_spread kN_RX0 kC_X0_spread) rfl (by decide +kernel) ⟨Nat.le_of_ble_eq_true rfl, Nat.le_of_ble_eq_true rfl⟩ rfl rfl (Nat.le_of_ble_eq_true rfl) ⟨Nat.le_refl 0, Nat.le_refl 0⟩ (fun r M h => ?_)
      exact a_iret dX4_pairs_43 ⟨_, rfl, h⟩
    · refine em_c h (fun c2 h => ?_) (fun c2 h => ?_)
      · refine a_tableIn (off := 43) (tgt := 44) dX4_pairs_1 (by rw [c2]; decide) (by rw [c2]; decide) (by rw [c2]; rfl) (by decide) ?_
        refine a_ldcw dX4_pairs_44 (tbc _ kK_RX4_283) ?_
        refine a_aload_n dX4_pairs_47 0 rfl ?_
        refine a_get2 dX4_pairs_48 0 (by decide) (tbc _ kF_RX4_10) (fun w h => tbc _ (uW2 w h)) rfl ob_0 rfl ?_
        refine a_callVi (n := 0) [] (C := RX0) (ci := 0) (qc := (RX0, TX0, 9)) (fsF := fl0 G _) ob_1.1 (fun _ => en0 ob_1.2) rfl rfl dX4_pairs_51 (s0_standingCells ob_1 h) (gV tbc kM_RX4_284_X0_standingCells kI_X0_standingCells kS_X0_standingCells kN_RX0 kC_X0_standingCells) rfl (by decide +kernel) ⟨Nat.le_of_ble_eq_true rfl, Nat.le_of_ble_eq_true rfl⟩ rfl rfl (Nat.le_of_ble_eq_true rfl) ⟨Nat.le_refl 0, Nat.le_refl 0⟩ (fun r M h => ?_)
        refine a_iconst (v := -1) dX4_pairs_54 (by decide) ?_
        refine a_ixor dX4_pairs_55 ?_
        refine a_iand dX4_pairs_56 ?_
        exact a_iret dX4_pairs_57 ⟨_, rfl, h⟩
      · refine a_tableD (tgt := 58) dX4_pairs_1 (by decide) (fun k h1 h2 e => by have hk : k = 0 ∨ k = 1 ∨ k = 2 := (by omega); rcases hk with rfl | rfl | rfl <;> first | rfl | exact absurd e (ne_ti c0 (by decide)) | exact absurd e (ne_ti c1 (by decide)) | exact absurd e (ne_ti c2 (by decide))) ?_
        refine a_aload_n dX4_pairs_58 0 rfl ?_
        refine a_bipush (v := -2) dX4_pairs_59 (by decide) ?_
        refine a_callVi (n := 1) [.int _] (C := RX4) (ci := 2) (qc := (RX4, TX4, 12)) (fsF := fl2 G _) ob_0.1 (fun _ => en2 ob_0.2) rfl rfl dX4_pairs_61 (s4_refused h) (gV tbc kM_RX4_43_X4_refused kI_X4_refused kS_X4_refused kN_RX4 kC_X4_refused) rfl (by decide +kernel) ⟨Nat.le_of_ble_eq_true rfl, Nat.le_of_ble_eq_true rfl⟩ rfl rfl (Nat.le_of_ble_eq_true rfl) ⟨Nat.le_refl 0, Nat.le_refl 0⟩ (fun r M h => ?_)
        exact a_iret dX4_pairs_64 ⟨_, rfl, h⟩

/-! X4_pays -/
theorem dX4_pays_0 : decode cX4_pays 0 = .ok (.aload_n 0, 1) := by decide +kernel
theorem dX4_pays_1 : decode cX4_pays 1 = .ok (.invokevirtual 133, 3) := by decide +kernel
theorem dX4_pays_4 : decode cX4_pays 4 = .ok (.aload_n 0, 1) := by decide +kernel
theorem dX4_pays_5 : decode cX4_pays 5 = .ok (.getfield 10, 3) := by decide +kernel
theorem dX4_pays_8 : decode cX4_pays 8 = .ok (.getfield 146, 3) := by decide +kernel
theorem dX4_pays_11 : decode cX4_pays 11 = .ok (.istore_n 1, 1) := by decide +kernel
theorem dX4_pays_12 : decode cX4_pays 12 = .ok (.aload_n 0, 1) := by decide +kernel
theorem dX4_pays_13 : decode cX4_pays 13 = .ok (.getfield 10, 3) := by decide +kernel
theorem dX4_pays_16 : decode cX4_pays 16 = .ok (.invokevirtual 149, 3) := by decide +kernel
theorem dX4_pays_19 : decode cX4_pays 19 = .ok (.iload_n 1, 1) := by decide +kernel
theorem dX4_pays_20 : decode cX4_pays 20 = .ok (.ireturn, 1) := by decide +kernel
abbrev A4_pays (G : GG) (Q : Int32 → MM → Prop) := AW G E0 (MZ G (qI Q)) (WY yX4_pays cX4_pays 2 (some .int)) RX4 cX4_pays 2 (some .int) ({ frames := 2, cells := 0, slots := 0, locals := 43 } : Room) 0 0
def D4_pays (M : MM) (Q : Int32 → MM → Prop) : Prop := D4_remembers M (fun (M2 : MM) => (fun v3 : Int32 => D0_settles 1 M2 (fun (M5 : MM) => Q v3 M5)) (M2 1 8))
set_option maxHeartbeats 4000000 in
set_option maxRecDepth 100000 in
theorem s4_pays {G : GG} {M : MM} {Q : Int32 → MM → Prop} (h : D4_pays M Q) : CM G yX4_pays (WY yX4_pays cX4_pays 2 (some .int)) 2 43 [.ref (gA G 0)] M (qI Q) := by
  refine CM.of (cc := cX4_pays) (nL := 2) (ret := (some .int)) (own := RX4) (by decide +kernel) rfl rfl (Nat.le_of_ble_eq_true rfl) ?_
  show A4_pays G Q 0 [(0, .ref (gA G 0))] [] M
  unfold D4_pays at h
  refine a_aload_n dX4_pays_0 0 rfl ?_
  refine a_callVv (n := 0) [] (C := RX4) (ci := 2) (qc := (RX4, TX4, 12)) (fsF := fl2 G _) ob_0.1 (fun _ => en2 ob_0.2) rfl rfl dX4_pays_1 (s4_remembers h) (gV tbc kM_RX4_133_X4_remembers kI_X4_remembers kS_X4_remembers kN_RX4 kC_X4_remembers) rfl (by decide +kernel) ⟨Nat.le_of_ble_eq_true rfl, Nat.le_of_ble_eq_true rfl⟩ rfl rfl (Nat.le_of_ble_eq_true rfl) ⟨Nat.le_refl 0, Nat.le_refl 0⟩ (fun M h => ?_)
  refine a_aload_n dX4_pays_4 0 rfl ?_
  refine a_get2 dX4_pays_5 0 (by decide) (tbc _ kF_RX4_10) (fun w h => tbc _ (uW2 w h)) rfl ob_0 rfl ?_
  refine a_getN0 dX4_pays_8 8 (by decide) (fun _ h => h.2.1) (fun w h => tbc _ (uW0 w h)) rfl ob_1 rfl ?_
  refine a_istore_n (i := 1) (L' := [(1, .int _), (0, .ref _)]) dX4_pays_11 rfl (by decide) rfl ?_
  refine a_aload_n dX4_pays_12 1 rfl ?_
  refine a_get2 dX4_pays_13 0 (by decide) (tbc _ kF_RX4_10) (fun w h => tbc _ (uW2 w h)) rfl ob_0 rfl ?_
  refine a_callVv (n := 0) [] (C := RX0) (ci := 0) (qc := (RX0, TX0, 9)) (fsF := fl0 G _) ob_1.1 (fun _ => en0 ob_1.2) rfl rfl dX4_pays_16 (s0_settles ob_1 h) (gV tbc kM_RX4_149_X0_settles kI_X0_settles kS_X0_settles kN_RX0 kC_X0_settles) rfl (by decide +kernel) ⟨Nat.le_of_ble_eq_true rfl, Nat.le_of_ble_eq_true rfl⟩ rfl rfl (Nat.le_of_ble_eq_true rfl) ⟨Nat.le_refl 0, Nat.le_refl 0⟩ (fun M h => ?_)
  refine a_iload_n dX4_pays_19 0 rfl ?_
  exact a_iret dX4_pays_20 ⟨_, rfl, h⟩

/-! X4_stepsOver -/
theorem dX4_stepsOver_0 : decode cX4_stepsOver 0 = .ok (.aload_n 0, 1) := by decide +kernel
theorem dX4_stepsOver_1 : decode cX4_stepsOver 1 = .ok (.iload_n 1, 1) := by decide +kernel
theorem dX4_stepsOver_2 : decode cX4_stepsOver 2 = .ok (.iload_n 2, 1) := by decide +kernel
theorem dX4_stepsOver_3 : decode cX4_stepsOver 3 = .ok (.invokevirtual 212, 3) := by decide +kernel
theorem dX4_stepsOver_6 : decode cX4_stepsOver 6 = .ok (.istore_n 3, 1) := by decide +kernel
theorem dX4_stepsOver_7 : decode cX4_stepsOver 7 = .ok (.iload_n 3, 1) := by decide +kernel
theorem dX4_stepsOver_8 : decode cX4_stepsOver 8 = .ok (.ifCond .ge 7, 3) := by decide +kernel
theorem dX4_stepsOver_11 : decode cX4_stepsOver 11 = .ok (.iconst 0, 1) := by decide +kernel
theorem dX4_stepsOver_12 : decode cX4_stepsOver 12 = .ok (.goto 10, 3) := by decide +kernel
theorem dX4_stepsOver_15 : decode cX4_stepsOver 15 = .ok (.aload_n 0, 1) := by decide +kernel
theorem dX4_stepsOver_16 : decode cX4_stepsOver 16 = .ok (.iload_n 1, 1) := by decide +kernel
theorem dX4_stepsOver_17 : decode cX4_stepsOver 17 = .ok (.iload_n 2, 1) := by decide +kernel
theorem dX4_stepsOver_18 : decode cX4_stepsOver 18 = .ok (.iload_n 3, 1) := by decide +kernel
theorem dX4_stepsOver_19 : decode cX4_stepsOver 19 = .ok (.invokevirtual 305, 3) := by decide +kernel
theorem dX4_stepsOver_22 : decode cX4_stepsOver 22 = .ok (.ireturn, 1) := by decide +kernel
abbrev A4_stepsOver (G : GG) (Q : Int32 → MM → Prop) := AW G E0 (MZ G (qI Q)) (WY yX4_stepsOver cX4_stepsOver 4 (some .int)) RX4 cX4_stepsOver 4 (some .int) ({ frames := 4, cells := 0, slots := 0, locals := 93 } : Room) 0 0
def D4_stepsOver (x1 : Int32) (x2 : Int32) (M : MM) (Q : Int32 → MM → Prop) : Prop := D4_nextStop x1 x2 M (fun (r1 : Int32) (M2 : MM) => ((0 ≤ r1 → D4_stepsBy x1 x2 r1 M2 (fun (r3 : Int32) (M4 : MM) => Q r3 M4)) ∧ (¬ 0 ≤ r1 → Q (0 : Int32) M2)))
set_option maxHeartbeats 4000000 in
set_option maxRecDepth 100000 in
theorem s4_stepsOver {G : GG} {x1 : Int32} {x2 : Int32} {M : MM} {Q : Int32 → MM → Prop} (h : D4_stepsOver x1 x2 M Q) : CM G yX4_stepsOver (WY yX4_stepsOver cX4_stepsOver 4 (some .int)) 4 93 [.ref (gA G 0), .int x1, .int x2] M (qI Q) := by
  refine CM.of (cc := cX4_stepsOver) (nL := 4) (ret := (some .int)) (own := RX4) (by decide +kernel) rfl rfl (Nat.le_of_ble_eq_true rfl) ?_
  show A4_stepsOver G Q 0 [(0, .ref (gA G 0)), (1, .int x1), (2, .int x2)] [] M
  unfold D4_stepsOver at h
  refine a_aload_n dX4_stepsOver_0 0 rfl ?_
  refine a_iload_n dX4_stepsOver_1 1 rfl ?_
  refine a_iload_n dX4_stepsOver_2 2 rfl ?_
  refine a_callVi (n := 2) [.int _, .int _] (C := RX4) (ci := 2) (qc := (RX4, TX4, 12)) (fsF := fl2 G _) ob_0.1 (fun _ => en2 ob_0.2) rfl rfl dX4_stepsOver_3 (s4_nextStop h) (gV tbc kM_RX4_212_X4_nextStop kI_X4_nextStop kS_X4_nextStop kN_RX4 kC_X4_nextStop) rfl (by decide +kernel) ⟨Nat.le_of_ble_eq_true rfl, Nat.le_of_ble_eq_true rfl⟩ rfl rfl (Nat.le_of_ble_eq_true rfl) ⟨Nat.le_refl 0, Nat.le_refl 0⟩ (fun r M h => ?_)
  refine a_istore_n (i := 3) (L' := [(3, .int _), (0, .ref _), (1, .int _), (2, .int _)]) dX4_stepsOver_6 rfl (by decide) rfl ?_
  refine a_iload_n dX4_stepsOver_7 0 rfl ?_
  refine a_if_ge (tgt := 15) dX4_stepsOver_8 (by decide) (fun c => ?_) (fun c => ?_)
  · have h := h.1 c
    refine a_aload_n dX4_stepsOver_15 1 rfl ?_
    refine a_iload_n dX4_stepsOver_16 2 rfl ?_
    refine a_iload_n dX4_stepsOver_17 3 rfl ?_
    refine a_iload_n dX4_stepsOver_18 0 rfl ?_
    refine a_callVi (n := 3) [.int _, .int _, .int _] (C := RX4) (ci := 2) (qc := (RX4, TX4, 12)) (fsF := fl2 G _) ob_0.1 (fun _ => en2 ob_0.2) rfl rfl dX4_stepsOver_19 (s4_stepsBy h) (gV tbc kM_RX4_305_X4_stepsBy kI_X4_stepsBy kS_X4_stepsBy kN_RX4 kC_X4_stepsBy) rfl (by decide +kernel) ⟨Nat.le_of_ble_eq_true rfl, Nat.le_of_ble_eq_true rfl⟩ rfl rfl (Nat.le_of_ble_eq_true rfl) ⟨Nat.le_refl 0, Nat.le_refl 0⟩ (fun r M h => ?_)
    exact a_iret dX4_stepsOver_22 ⟨_, rfl, h⟩
  · have h := h.2 c
    refine a_iconst (v := 0) dX4_stepsOver_11 (by decide) ?_
    refine a_goto (tgt := 22) dX4_stepsOver_12 (by decide) ?_
    exact a_iret dX4_stepsOver_22 ⟨_, rfl, h⟩

/-! X4_planRoutes -/
theorem dX4_planRoutes_0 : decode cX4_planRoutes 0 = .ok (.iconst 0, 1) := by decide +kernel
theorem dX4_planRoutes_1 : decode cX4_planRoutes 1 = .ok (.istore_n 1, 1) := by decide +kernel
theorem dX4_planRoutes_2 : decode cX4_planRoutes 2 = .ok (.iload_n 1, 1) := by decide +kernel
theorem dX4_planRoutes_3 : decode cX4_planRoutes 3 = .ok (.sipush 2048, 3) := by decide +kernel
theorem dX4_planRoutes_6 : decode cX4_planRoutes 6 = .ok (.if_icmp .ge 54, 3) := by decide +kernel
theorem dX4_planRoutes_9 : decode cX4_planRoutes 9 = .ok (.iload_n 1, 1) := by decide +kernel
theorem dX4_planRoutes_10 : decode cX4_planRoutes 10 = .ok (.bipush 8, 2) := by decide +kernel
theorem dX4_planRoutes_12 : decode cX4_planRoutes 12 = .ok (.idiv, 1) := by decide +kernel
theorem dX4_planRoutes_13 : decode cX4_planRoutes 13 = .ok (.istore_n 2, 1) := by decide +kernel
theorem dX4_planRoutes_14 : decode cX4_planRoutes 14 = .ok (.aload_n 0, 1) := by decide +kernel
theorem dX4_planRoutes_15 : decode cX4_planRoutes 15 = .ok (.getfield 40, 3) := by decide +kernel
theorem dX4_planRoutes_18 : decode cX4_planRoutes 18 = .ok (.iload_n 1, 1) := by decide +kernel
theorem dX4_planRoutes_19 : decode cX4_planRoutes 19 = .ok (.iload_n 2, 1) := by decide +kernel
theorem dX4_planRoutes_20 : decode cX4_planRoutes 20 = .ok (.aload_n 0, 1) := by decide +kernel
theorem dX4_planRoutes_21 : decode cX4_planRoutes 21 = .ok (.getfield 10, 3) := by decide +kernel
theorem dX4_planRoutes_24 : decode cX4_planRoutes 24 = .ok (.getfield 183, 3) := by decide +kernel
theorem dX4_planRoutes_27 : decode cX4_planRoutes 27 = .ok (.iconst (-1), 1) := by decide +kernel
theorem dX4_planRoutes_28 : decode cX4_planRoutes 28 = .ok (.ixor, 1) := by decide +kernel
theorem dX4_planRoutes_29 : decode cX4_planRoutes 29 = .ok (.iand, 1) := by decide +kernel
theorem dX4_planRoutes_30 : decode cX4_planRoutes 30 = .ok (.ifCond .ne 22, 3) := by decide +kernel
theorem dX4_planRoutes_33 : decode cX4_planRoutes 33 = .ok (.aload_n 0, 1) := by decide +kernel
theorem dX4_planRoutes_34 : decode cX4_planRoutes 34 = .ok (.aload_n 0, 1) := by decide +kernel
theorem dX4_planRoutes_35 : decode cX4_planRoutes 35 = .ok (.getfield 10, 3) := by decide +kernel
theorem dX4_planRoutes_38 : decode cX4_planRoutes 38 = .ok (.iload_n 1, 1) := by decide +kernel
theorem dX4_planRoutes_39 : decode cX4_planRoutes 39 = .ok (.bipush 8, 2) := by decide +kernel
theorem dX4_planRoutes_41 : decode cX4_planRoutes 41 = .ok (.irem, 1) := by decide +kernel
theorem dX4_planRoutes_42 : decode cX4_planRoutes 42 = .ok (.invokevirtual 90, 3) := by decide +kernel
theorem dX4_planRoutes_45 : decode cX4_planRoutes 45 = .ok (.iload_n 2, 1) := by decide +kernel
theorem dX4_planRoutes_46 : decode cX4_planRoutes 46 = .ok (.invokevirtual 209, 3) := by decide +kernel
theorem dX4_planRoutes_49 : decode cX4_planRoutes 49 = .ok (.goto 4, 3) := by decide +kernel
theorem dX4_planRoutes_52 : decode cX4_planRoutes 52 = .ok (.iconst 0, 1) := by decide +kernel
theorem dX4_planRoutes_53 : decode cX4_planRoutes 53 = .ok (.iastore, 1) := by decide +kernel
theorem dX4_planRoutes_54 : decode cX4_planRoutes 54 = .ok (.iinc 1 1, 3) := by decide +kernel
theorem dX4_planRoutes_57 : decode cX4_planRoutes 57 = .ok (.goto (-55), 3) := by decide +kernel
theorem dX4_planRoutes_60 : decode cX4_planRoutes 60 = .ok (.return_, 1) := by decide +kernel
abbrev A4_planRoutes (G : GG) (Q : MM → Prop) := AW G E0 (MZ G (qV Q)) (WY yX4_planRoutes cX4_planRoutes 3 none) RX4 cX4_planRoutes 3 none ({ frames := 5, cells := 0, slots := 0, locals := 116 } : Room) 0 0
def D4_planRoutes_c53 (K2 : Int32 → MM → Prop) (Q : MM → Prop) (x1 : Int32) (s0 : Int32) (s1 : Int32) (s2 : Nat) (M : MM) : Prop := ib s2 s1 ∧ (fun M6 : MM => (fun v7 : Int32 => K2 v7 M6) (x1 + (1 : Int32))) (up M s2 (ix s1) s0)
def D4_planRoutes_c2 (Q : MM → Prop) : Nat → Int32 → MM → Prop
  | 0, _, _ => False
  | n + 1, x1, M => (((2048 : Int32) ≤ x1 → Q M) ∧ (¬ (2048 : Int32) ≤ x1 → (fun v1 : Int32 => (((v1 &&& ((M 1 5) ^^^ (-1 : Int32))) ≠ 0 → D4_planRoutes_c53 (D4_planRoutes_c2 Q n) Q x1 (0 : Int32) x1 61 M) ∧ ((v1 &&& ((M 1 5) ^^^ (-1 : Int32))) = 0 → D0_cellOf 1 (x1 - x1 / (8 : Int32) * (8 : Int32)) M (fun (r2 : Int32) (M3 : MM) => D4_stepsOver r2 v1 M3 (fun (r4 : Int32) (M5 : MM) => D4_planRoutes_c53 (D4_planRoutes_c2 Q n) Q x1 r4 x1 61 M5))))) (x1 / (8 : Int32))))
def D4_planRoutes (M : MM) (Q : MM → Prop) : Prop := D4_planRoutes_c2 Q FU (0 : Int32) M
set_option maxHeartbeats 4000000 in
set_option maxRecDepth 100000 in
theorem s4_planRoutes_c53 {G : GG} {K2 : Int32 → MM → Prop} {Q : MM → Prop} (hK2 : ∀ (x1 : Int32) (M : MM), K2 x1 M → A4_planRoutes G Q 2 [(0, .ref (gA G 0)), (1, .int x1)] [] M) : ∀ (x1 : Int32) (s0 : Int32) (s1 : Int32) (s2 : Nat) (M : MM), D4_planRoutes_c53 K2 Q x1 s0 s1 s2 M → A4_planRoutes G Q 53 [(0, .ref (gA G 0)), (1, .int x1)] [.int s0, .int s1, .ref (gA G s2)] M := by
  intro x1 s0 s1 s2 M h
  unfold D4_planRoutes_c53 at h
  refine a_iast dX4_planRoutes_53 h.1 ?_
  have h := h.2
  refine a_iinc (L' := [(1, .int _), (0, .ref _)]) dX4_planRoutes_54 1 rfl (show _ + Int32.ofInt (1 : Int) = _ + (1 : Int32) from rfl) (by decide) rfl ?_
  refine a_goto (tgt := 2) dX4_planRoutes_57 (by decide) ?_
  refine a_sub [1, 0] rfl ?_
  exact hK2 _ _ h
set_option maxHeartbeats 4000000 in
set_option maxRecDepth 100000 in
theorem s4_planRoutes_c2 {G : GG} {Q : MM → Prop} : ∀ (n : Nat) (x1 : Int32) (M : MM), D4_planRoutes_c2 Q n x1 M → A4_planRoutes G Q 2 [(0, .ref (gA G 0)), (1, .int x1)] [] M := by
  intro n
  induction n with
  | zero => intro x1 M h; exact h.elim
  | succ n ih =>
    intro x1 M h
    unfold D4_planRoutes_c2 at h
    refine a_iload_n dX4_planRoutes_2 1 rfl ?_
    refine a_sipush (v := 2048) dX4_planRoutes_3 (by decide) ?_
    refine a_icmp_ge (tgt := 60) dX4_planRoutes_6 (by decide) (fun c => ?_) (fun c => ?_)
    · have h := h.1 c
      exact a_vret dX4_planRoutes_60 ⟨rfl, h⟩
    · have h := h.2 c
      refine a_iload_n dX4_planRoutes_9 1 rfl ?_
      refine a_bipush (v := 8) dX4_planRoutes_10 (by decide) ?_
      refine a_idiv dX4_planRoutes_12 (by decide) ?_
      refine a_istore_n (i := 2) (L' := [(2, .int _), (0, .ref _), (1, .int _)]) dX4_planRoutes_13 rfl (by decide) rfl ?_
      refine a_aload_n dX4_planRoutes_14 1 rfl ?_
      refine a_get2 dX4_planRoutes_15 7 (by decide) (tbc _ kF_RX4_40) (fun w h => tbc _ (uW2 w h)) rfl ob_0 rfl ?_
      refine a_iload_n dX4_planRoutes_18 2 rfl ?_
      refine a_iload_n dX4_planRoutes_19 0 rfl ?_
      refine a_aload_n dX4_planRoutes_20 1 rfl ?_
      refine a_get2 dX4_planRoutes_21 0 (by decide) (tbc _ kF_RX4_10) (fun w h => tbc _ (uW2 w h)) rfl ob_0 rfl ?_
      refine a_getN0 dX4_planRoutes_24 5 (by decide) (fun _ h => h.2.2.2.2.1) (fun w h => tbc _ (uW0 w h)) rfl ob_1 rfl ?_
      refine a_iconst (v := -1) dX4_planRoutes_27 (by decide) ?_
      refine a_ixor dX4_planRoutes_28 ?_
      refine a_iand dX4_planRoutes_29 ?_
      refine a_if_ne (tgt := 52) dX4_planRoutes_30 (by decide) (fun c => ?_) (fun c => ?_)
      · have h := h.1 c
        refine a_iconst (v := 0) dX4_planRoutes_52 (by decide) ?_
        refine a_sub [1, 2] rfl ?_
        exact s4_planRoutes_c53 ih _ _ _ _ _ h
      · have h := h.2 c
        refine a_aload_n dX4_planRoutes_33 1 rfl ?_
        refine a_aload_n dX4_planRoutes_34 1 rfl ?_
        refine a_get2 dX4_planRoutes_35 0 (by decide) (tbc _ kF_RX4_10) (fun w h => tbc _ (uW2 w h)) rfl ob_0 rfl ?_
        refine a_iload_n dX4_planRoutes_38 2 rfl ?_
        refine a_bipush (v := 8) dX4_planRoutes_39 (by decide) ?_
        refine a_irem dX4_planRoutes_41 (by decide) ?_
        refine a_callVi (n := 1) [.int _] (C := RX0) (ci := 0) (qc := (RX0, TX0, 9)) (fsF := fl0 G _) ob_1.1 (fun _ => en0 ob_1.2) rfl rfl dX4_planRoutes_42 (s0_cellOf ob_1 h) (gV tbc kM_RX4_90_X0_cellOf kI_X0_cellOf kS_X0_cellOf kN_RX0 kC_X0_cellOf) rfl (by decide +kernel) ⟨Nat.le_of_ble_eq_true rfl, Nat.le_of_ble_eq_true rfl⟩ rfl rfl (Nat.le_of_ble_eq_true rfl) ⟨Nat.le_refl 0, Nat.le_refl 0⟩ (fun r M h => ?_)
        refine a_iload_n dX4_planRoutes_45 0 rfl ?_
        refine a_callVi (n := 2) [.int _, .int _] (C := RX4) (ci := 2) (qc := (RX4, TX4, 12)) (fsF := fl2 G _) ob_0.1 (fun _ => en2 ob_0.2) rfl rfl dX4_planRoutes_46 (s4_stepsOver h) (gV tbc kM_RX4_209_X4_stepsOver kI_X4_stepsOver kS_X4_stepsOver kN_RX4 kC_X4_stepsOver) rfl (by decide +kernel) ⟨Nat.le_of_ble_eq_true rfl, Nat.le_of_ble_eq_true rfl⟩ rfl rfl (Nat.le_of_ble_eq_true rfl) ⟨Nat.le_refl 0, Nat.le_refl 0⟩ (fun r M h => ?_)
        refine a_goto (tgt := 53) dX4_planRoutes_49 (by decide) ?_
        refine a_sub [1, 2] rfl ?_
        exact s4_planRoutes_c53 ih _ _ _ _ _ h
set_option maxHeartbeats 4000000 in
set_option maxRecDepth 100000 in
theorem s4_planRoutes {G : GG} {M : MM} {Q : MM → Prop} (h : D4_planRoutes M Q) : CM G yX4_planRoutes (WY yX4_planRoutes cX4_planRoutes 3 none) 5 116 [.ref (gA G 0)] M (qV Q) := by
  refine CM.of (cc := cX4_planRoutes) (nL := 3) (ret := none) (own := RX4) (by decide +kernel) rfl rfl (Nat.le_of_ble_eq_true rfl) ?_
  show A4_planRoutes G Q 0 [(0, .ref (gA G 0))] [] M
  unfold D4_planRoutes at h
  refine a_iconst (v := 0) dX4_planRoutes_0 (by decide) ?_
  refine a_istore_n (i := 1) (L' := [(1, .int _), (0, .ref _)]) dX4_planRoutes_1 rfl (by decide) rfl ?_
  refine a_sub [1, 0] rfl ?_
  exact s4_planRoutes_c2 _ _ _ h

/-! X4_power -/
theorem dX4_power_0 : decode cX4_power 0 = .ok (.lconst 1, 1) := by decide +kernel
theorem dX4_power_1 : decode cX4_power 1 = .ok (.lstore_n 2, 1) := by decide +kernel
theorem dX4_power_2 : decode cX4_power 2 = .ok (.iconst 0, 1) := by decide +kernel
theorem dX4_power_3 : decode cX4_power 3 = .ok (.istore 4, 2) := by decide +kernel
theorem dX4_power_5 : decode cX4_power 5 = .ok (.iload 4, 2) := by decide +kernel
theorem dX4_power_7 : decode cX4_power 7 = .ok (.iload_n 1, 1) := by decide +kernel
theorem dX4_power_8 : decode cX4_power 8 = .ok (.if_icmp .ge 21, 3) := by decide +kernel
theorem dX4_power_11 : decode cX4_power 11 = .ok (.iload 4, 2) := by decide +kernel
theorem dX4_power_13 : decode cX4_power 13 = .ok (.bipush 7, 2) := by decide +kernel
theorem dX4_power_15 : decode cX4_power 15 = .ok (.if_icmp .gt 14, 3) := by decide +kernel
theorem dX4_power_18 : decode cX4_power 18 = .ok (.lload_n 2, 1) := by decide +kernel
theorem dX4_power_19 : decode cX4_power 19 = .ok (.iload_n 0, 1) := by decide +kernel
theorem dX4_power_20 : decode cX4_power 20 = .ok (.i2l, 1) := by decide +kernel
theorem dX4_power_21 : decode cX4_power 21 = .ok (.lmul, 1) := by decide +kernel
theorem dX4_power_22 : decode cX4_power 22 = .ok (.lstore_n 2, 1) := by decide +kernel
theorem dX4_power_23 : decode cX4_power 23 = .ok (.iinc 4 1, 3) := by decide +kernel
theorem dX4_power_26 : decode cX4_power 26 = .ok (.goto (-21), 3) := by decide +kernel
theorem dX4_power_29 : decode cX4_power 29 = .ok (.lload_n 2, 1) := by decide +kernel
theorem dX4_power_30 : decode cX4_power 30 = .ok (.lreturn, 1) := by decide +kernel
abbrev A4_power (G : GG) (Q : Int64 → MM → Prop) := AW G E0 (MZ G (qL Q)) (WY yX4_power cX4_power 5 (some .long)) RX4 cX4_power 5 (some .long) ({ frames := 0, cells := 0, slots := 0, locals := 0 } : Room) 0 0
def D4_power_c5 (Q : Int64 → MM → Prop) : Nat → Int32 → Int32 → Int64 → Int32 → MM → Prop
  | 0, _, _, _, _, _ => False
  | n + 1, x0, x1, x2, x4, M => ((x1 ≤ x4 → Q x2 M) ∧ (¬ x1 ≤ x4 → (((7 : Int32) < x4 → Q x2 M) ∧ (¬ (7 : Int32) < x4 → (fun v1 : Int64 => (fun v2 : Int32 => D4_power_c5 Q n x0 x1 v1 v2 M) (x4 + (1 : Int32))) (x2 * x0.toInt64)))))
def D4_power (x0 : Int32) (x1 : Int32) (M : MM) (Q : Int64 → MM → Prop) : Prop := D4_power_c5 Q FU x0 x1 (1 : Int64) (0 : Int32) M
set_option maxHeartbeats 4000000 in
set_option maxRecDepth 100000 in
theorem s4_power_c5 {G : GG} {Q : Int64 → MM → Prop} : ∀ (n : Nat) (x0 : Int32) (x1 : Int32) (x2 : Int64) (x4 : Int32) (M : MM), D4_power_c5 Q n x0 x1 x2 x4 M → A4_power G Q 5 [(0, .int x0), (1, .int x1), (2, .long x2), (4, .int x4)] [] M := by
  intro n
  induction n with
  | zero => intro x0 x1 x2 x4 M h; exact h.elim
  | succ n ih =>
    intro x0 x1 x2 x4 M h
    unfold D4_power_c5 at h
    refine a_iload dX4_power_5 3 rfl ?_
    refine a_iload_n dX4_power_7 1 rfl ?_
    refine a_icmp_ge (tgt := 29) dX4_power_8 (by decide) (fun c => ?_) (fun c => ?_)
    · have h := h.1 c
      refine a_lload_n dX4_power_29 2 rfl ?_
      exact a_lret dX4_power_30 ⟨_, rfl, h⟩
    · have h := h.2 c
      refine a_iload dX4_power_11 3 rfl ?_
      refine a_bipush (v := 7) dX4_power_13 (by decide) ?_
      refine a_icmp_gt (tgt := 29) dX4_power_15 (by decide) (fun c => ?_) (fun c => ?_)
      · have h := h.1 c
        refine a_lload_n dX4_power_29 2 rfl ?_
        exact a_lret dX4_power_30 ⟨_, rfl, h⟩
      · have h := h.2 c
        refine a_lload_n dX4_power_18 2 rfl ?_
        refine a_iload_n dX4_power_19 0 rfl ?_
        refine a_i2l dX4_power_20 ?_
        refine a_lmul dX4_power_21 ?_
        refine a_lstore_n (i := 2) (L' := [(2, .long _), (0, .int _), (1, .int _), (4, .int _)]) dX4_power_22 rfl (by decide) rfl ?_
        refine a_iinc (L' := [(4, .int _), (2, .long _), (0, .int _), (1, .int _)]) dX4_power_23 3 rfl (show _ + Int32.ofInt (1 : Int) = _ + (1 : Int32) from rfl) (by decide) rfl ?_
        refine a_goto (tgt := 5) dX4_power_26 (by decide) ?_
        refine a_sub [2, 3, 1, 0] rfl ?_
        exact ih _ _ _ _ _ h
set_option maxHeartbeats 4000000 in
set_option maxRecDepth 100000 in
theorem s4_power {G : GG} {x0 : Int32} {x1 : Int32} {M : MM} {Q : Int64 → MM → Prop} (h : D4_power x0 x1 M Q) : CM G yX4_power (WY yX4_power cX4_power 5 (some .long)) 0 0 [.int x0, .int x1] M (qL Q) := by
  refine CM.of (cc := cX4_power) (nL := 5) (ret := (some .long)) (own := RX4) (by decide +kernel) rfl rfl (Nat.le_of_ble_eq_true rfl) ?_
  show A4_power G Q 0 [(0, .int x0), (1, .int x1)] [] M
  unfold D4_power at h
  refine a_lconst (v := 1) dX4_power_0 (by decide) ?_
  refine a_lstore_n (i := 2) (L' := [(2, .long _), (0, .int _), (1, .int _)]) dX4_power_1 rfl (by decide) rfl ?_
  refine a_iconst (v := 0) dX4_power_2 (by decide) ?_
  refine a_istore (i := 4) (L' := [(4, .int _), (2, .long _), (0, .int _), (1, .int _)]) dX4_power_3 (by decide) rfl ?_
  refine a_sub [2, 3, 1, 0] rfl ?_
  exact s4_power_c5 _ _ _ _ _ _ h
