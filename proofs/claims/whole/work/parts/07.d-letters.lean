/-! X2_add -/
theorem dX2_add_0 : decode cX2_add 0 = .ok (.aload_n 0, 1) := by decide +kernel
theorem dX2_add_1 : decode cX2_add 1 = .ok (.getfield 15, 3) := by decide +kernel
theorem dX2_add_4 : decode cX2_add 4 = .ok (.ifCond .lt 32, 3) := by decide +kernel
theorem dX2_add_7 : decode cX2_add 7 = .ok (.aload_n 0, 1) := by decide +kernel
theorem dX2_add_8 : decode cX2_add 8 = .ok (.getfield 15, 3) := by decide +kernel
theorem dX2_add_11 : decode cX2_add 11 = .ok (.bipush 96, 2) := by decide +kernel
theorem dX2_add_13 : decode cX2_add 13 = .ok (.if_icmp .ge 23, 3) := by decide +kernel
theorem dX2_add_16 : decode cX2_add 16 = .ok (.aload_n 0, 1) := by decide +kernel
theorem dX2_add_17 : decode cX2_add 17 = .ok (.getfield 9, 3) := by decide +kernel
theorem dX2_add_20 : decode cX2_add 20 = .ok (.aload_n 0, 1) := by decide +kernel
theorem dX2_add_21 : decode cX2_add 21 = .ok (.getfield 15, 3) := by decide +kernel
theorem dX2_add_24 : decode cX2_add 24 = .ok (.iload_n 1, 1) := by decide +kernel
theorem dX2_add_25 : decode cX2_add 25 = .ok (.iastore, 1) := by decide +kernel
theorem dX2_add_26 : decode cX2_add 26 = .ok (.aload_n 0, 1) := by decide +kernel
theorem dX2_add_27 : decode cX2_add 27 = .ok (.dup, 1) := by decide +kernel
theorem dX2_add_28 : decode cX2_add 28 = .ok (.getfield 15, 3) := by decide +kernel
theorem dX2_add_31 : decode cX2_add 31 = .ok (.iconst 1, 1) := by decide +kernel
theorem dX2_add_32 : decode cX2_add 32 = .ok (.iadd, 1) := by decide +kernel
theorem dX2_add_33 : decode cX2_add 33 = .ok (.putfield 15, 3) := by decide +kernel
theorem dX2_add_36 : decode cX2_add 36 = .ok (.return_, 1) := by decide +kernel
abbrev A2_add (G : GG) (Q : MM → Prop) := AW G E0 (MZ G (qV Q)) (WY yX2_add cX2_add 2 none) RX2 cX2_add 2 none ({ frames := 0, cells := 0, slots := 0, locals := 0 } : Room) 0 0
def D2_add (x1 : Int32) (M : MM) (Q : MM → Prop) : Prop := (((M 57 1) < 0 → Q M) ∧ (¬ (M 57 1) < 0 → (((96 : Int32) ≤ (M 57 1) → Q M) ∧ (¬ (96 : Int32) ≤ (M 57 1) → ib 58 (M 57 1) ∧ (fun M1 : MM => (fun M2 : MM => Q M2) (up M1 57 1 ((M1 57 1) + (1 : Int32)))) (up M 58 (ix (M 57 1)) x1)))))
set_option maxHeartbeats 4000000 in
set_option maxRecDepth 100000 in
theorem s2_add {G : GG} {x1 : Int32} {M : MM} {Q : MM → Prop} (h : D2_add x1 M Q) : CM G yX2_add (WY yX2_add cX2_add 2 none) 0 0 [.ref (gA G 57), .int x1] M (qV Q) := by
  refine CM.of (cc := cX2_add) (nL := 2) (ret := none) (own := RX2) (by decide +kernel) rfl rfl (Nat.le_of_ble_eq_true rfl) ?_
  show A2_add G Q 0 [(0, .ref (gA G 57)), (1, .int x1)] [] M
  unfold D2_add at h
  refine a_aload_n dX2_add_0 0 rfl ?_
  refine a_get1 dX2_add_1 1 (by decide) (tbc _ kF_RX2_15) (fun w h => tbc _ (uW1 w h)) rfl ob_57 rfl ?_
  refine a_if_lt (tgt := 36) dX2_add_4 (by decide) (fun c => ?_) (fun c => ?_)
  · have h := h.1 c
    exact a_vret dX2_add_36 ⟨rfl, h⟩
  · have h := h.2 c
    refine a_aload_n dX2_add_7 0 rfl ?_
    refine a_get1 dX2_add_8 1 (by decide) (tbc _ kF_RX2_15) (fun w h => tbc _ (uW1 w h)) rfl ob_57 rfl ?_
    refine a_bipush (v := 96) dX2_add_11 (by decide) ?_
    refine a_icmp_ge (tgt := 36) dX2_add_13 (by decide) (fun c => ?_) (fun c => ?_)
    · have h := h.1 c
      exact a_vret dX2_add_36 ⟨rfl, h⟩
    · have h := h.2 c
      refine a_aload_n dX2_add_16 0 rfl ?_
      refine a_get1 dX2_add_17 0 (by decide) (tbc _ kF_RX2_9) (fun w h => tbc _ (uW1 w h)) rfl ob_57 rfl ?_
      refine a_aload_n dX2_add_20 0 rfl ?_
      refine a_get1 dX2_add_21 1 (by decide) (tbc _ kF_RX2_15) (fun w h => tbc _ (uW1 w h)) rfl ob_57 rfl ?_
      refine a_iload_n dX2_add_24 1 rfl ?_
      refine a_iast dX2_add_25 h.1 ?_
      have h := h.2
      refine a_aload_n dX2_add_26 0 rfl ?_
      refine a_dup dX2_add_27 rfl ?_
      refine a_get1 dX2_add_28 1 (by decide) (tbc _ kF_RX2_15) (fun w h => tbc _ (uW1 w h)) rfl ob_57 rfl ?_
      refine a_iconst (v := 1) dX2_add_31 (by decide) ?_
      refine a_iadd dX2_add_32 ?_
      refine a_put1 dX2_add_33 1 (by decide) (tbc _ kF_RX2_15) (fun w h => tbc _ (uW1 w h)) rfl rfl rfl rfl ob_57 fs1_1 ?_
      exact a_vret dX2_add_36 ⟨rfl, h⟩

/-! X2_built -/
theorem dX2_built_0 : decode cX2_built 0 = .ok (.iload_n 0, 1) := by decide +kernel
theorem dX2_built_1 : decode cX2_built 1 = .ok (.invokestatic 64, 3) := by decide +kernel
theorem dX2_built_4 : decode cX2_built 4 = .ok (.ifCond .eq 27, 3) := by decide +kernel
theorem dX2_built_7 : decode cX2_built 7 = .ok (.iload_n 2, 1) := by decide +kernel
theorem dX2_built_8 : decode cX2_built 8 = .ok (.invokestatic 67, 3) := by decide +kernel
theorem dX2_built_11 : decode cX2_built 11 = .ok (.ifCond .eq 20, 3) := by decide +kernel
theorem dX2_built_14 : decode cX2_built 14 = .ok (.aload_n 3, 1) := by decide +kernel
theorem dX2_built_15 : decode cX2_built 15 = .ok (.getfield 70, 3) := by decide +kernel
theorem dX2_built_18 : decode cX2_built 18 = .ok (.bipush 8, 2) := by decide +kernel
theorem dX2_built_20 : decode cX2_built 20 = .ok (.if_icmp .ge 11, 3) := by decide +kernel
theorem dX2_built_23 : decode cX2_built 23 = .ok (.aload_n 3, 1) := by decide +kernel
theorem dX2_built_24 : decode cX2_built 24 = .ok (.iload_n 2, 1) := by decide +kernel
theorem dX2_built_25 : decode cX2_built 25 = .ok (.invokevirtual 75, 3) := by decide +kernel
theorem dX2_built_28 : decode cX2_built 28 = .ok (.ifCond .lt 5, 3) := by decide +kernel
theorem dX2_built_31 : decode cX2_built 31 = .ok (.iconst 0, 1) := by decide +kernel
theorem dX2_built_32 : decode cX2_built 32 = .ok (.ireturn, 1) := by decide +kernel
theorem dX2_built_33 : decode cX2_built 33 = .ok (.aload_n 3, 1) := by decide +kernel
theorem dX2_built_34 : decode cX2_built 34 = .ok (.iload_n 0, 1) := by decide +kernel
theorem dX2_built_35 : decode cX2_built 35 = .ok (.iload_n 1, 1) := by decide +kernel
theorem dX2_built_36 : decode cX2_built 36 = .ok (.iload_n 2, 1) := by decide +kernel
theorem dX2_built_37 : decode cX2_built 37 = .ok (.invokevirtual 78, 3) := by decide +kernel
theorem dX2_built_40 : decode cX2_built 40 = .ok (.iconst 1, 1) := by decide +kernel
theorem dX2_built_41 : decode cX2_built 41 = .ok (.ireturn, 1) := by decide +kernel
abbrev A2_built (G : GG) (Q : Int32 → MM → Prop) := AW G E0 (MZ G (qI Q)) (WY yX2_built cX2_built 4 (some .boolean)) RX2 cX2_built 4 (some .boolean) ({ frames := 2, cells := 0, slots := 0, locals := 43 } : Room) 0 0
def D2_built (x0 : Int32) (x1 : Int32) (x2 : Int32) (x3 : Nat) (M : MM) (Q : Int32 → MM → Prop) : Prop := D4_isKind x0 M (fun (r1 : Int32) (M2 : MM) => ((r1 = 0 → Q (0 : Int32) M2) ∧ (¬ r1 = 0 → D4_isCell x2 M2 (fun (r3 : Int32) (M4 : MM) => ((r3 = 0 → Q (0 : Int32) M4) ∧ (¬ r3 = 0 → (((8 : Int32) ≤ (M4 x3 4) → Q (0 : Int32) M4) ∧ (¬ (8 : Int32) ≤ (M4 x3 4) → D0_workIn x3 x2 M4 (fun (r5 : Int32) (M6 : MM) => ((r5 < 0 → D0_builds x3 x0 x1 x2 M6 (fun (M8 : MM) => Q (1 : Int32) M8)) ∧ (¬ r5 < 0 → Q (0 : Int32) M6)))))))))))
set_option maxHeartbeats 4000000 in
set_option maxRecDepth 100000 in
theorem s2_built {G : GG} {x0 : Int32} {x1 : Int32} {x2 : Int32} {x3 : Nat} {M : MM} {Q : Int32 → MM → Prop} (hx3 : ob x3 0) (h : D2_built x0 x1 x2 x3 M Q) : CM G yX2_built (WY yX2_built cX2_built 4 (some .boolean)) 2 43 [.int x0, .int x1, .int x2, .ref (gA G x3)] M (qI Q) := by
  refine CM.of (cc := cX2_built) (nL := 4) (ret := (some .boolean)) (own := RX2) (by decide +kernel) rfl rfl (Nat.le_of_ble_eq_true rfl) ?_
  show A2_built G Q 0 [(0, .int x0), (1, .int x1), (2, .int x2), (3, .ref (gA G x3))] [] M
  unfold D2_built at h
  refine a_iload_n dX2_built_0 0 rfl ?_
  refine a_callNi (n := 1) (host := RX4) [.int _] dX2_built_1 (s4_isKind h) (gW tbc kC_X4_isKind) (fun _ h => h.2.2.2.2.2.2.2.1) (tbc _ kN_RX4) (tbc _ kT_X4_isKind) rfl (by decide +kernel) ⟨Nat.le_of_ble_eq_true rfl, Nat.le_of_ble_eq_true rfl⟩ rfl rfl (Nat.le_of_ble_eq_true rfl) ⟨Nat.le_refl 0, Nat.le_refl 0⟩ (fun r M h => ?_)
  refine a_if_eq (tgt := 31) dX2_built_4 (by decide) (fun c => ?_) (fun c => ?_)
  · have h := h.1 c
    refine a_iconst (v := 0) dX2_built_31 (by decide) ?_
    exact a_zret dX2_built_32 (Or.inl rfl) ⟨_, rfl, h⟩
  · have h := h.2 c
    refine a_iload_n dX2_built_7 2 rfl ?_
    refine a_callNi (n := 1) (host := RX4) [.int _] dX2_built_8 (s4_isCell h) (gW tbc kC_X4_isCell) (fun _ h => h.2.2.2.2.2.2.2.2) (tbc _ kN_RX4) (tbc _ kT_X4_isCell) rfl (by decide +kernel) ⟨Nat.le_of_ble_eq_true rfl, Nat.le_of_ble_eq_true rfl⟩ rfl rfl (Nat.le_of_ble_eq_true rfl) ⟨Nat.le_refl 0, Nat.le_refl 0⟩ (fun r M h => ?_)
    refine a_if_eq (tgt := 31) dX2_built_11 (by decide) (fun c => ?_) (fun c => ?_)
    · have h := h.1 c
      refine a_iconst (v := 0) dX2_built_31 (by decide) ?_
      exact a_zret dX2_built_32 (Or.inl rfl) ⟨_, rfl, h⟩
    · have h := h.2 c
      refine a_aload_n dX2_built_14 3 rfl ?_
      refine a_getN0 dX2_built_15 4 (by decide) (fun _ h => h.2.2.2.2.2.1) (fun w h => tbc _ (uW0 w h)) rfl hx3 rfl ?_
      refine a_bipush (v := 8) dX2_built_18 (by decide) ?_
      refine a_icmp_ge (tgt := 31) dX2_built_20 (by decide) (fun c => ?_) (fun c => ?_)
      · have h := h.1 c
        refine a_iconst (v := 0) dX2_built_31 (by decide) ?_
        exact a_zret dX2_built_32 (Or.inl rfl) ⟨_, rfl, h⟩
      · have h := h.2 c
        refine a_aload_n dX2_built_23 3 rfl ?_
        refine a_iload_n dX2_built_24 2 rfl ?_
        refine a_callVi (n := 1) [.int _] (C := RX0) (ci := 0) (qc := (RX0, TX0, 9)) (fsF := fl0 G _) hx3.1 (fun _ => en0 hx3.2) rfl rfl dX2_built_25 (s0_workIn hx3 h) (gV tbc kM_RX2_75_X0_workIn kI_X0_workIn kS_X0_workIn kN_RX0 kC_X0_workIn) rfl (by decide +kernel) ⟨Nat.le_of_ble_eq_true rfl, Nat.le_of_ble_eq_true rfl⟩ rfl rfl (Nat.le_of_ble_eq_true rfl) ⟨Nat.le_refl 0, Nat.le_refl 0⟩ (fun r M h => ?_)
        refine a_if_lt (tgt := 33) dX2_built_28 (by decide) (fun c => ?_) (fun c => ?_)
        · have h := h.1 c
          refine a_aload_n dX2_built_33 3 rfl ?_
          refine a_iload_n dX2_built_34 0 rfl ?_
          refine a_iload_n dX2_built_35 1 rfl ?_
          refine a_iload_n dX2_built_36 2 rfl ?_
          refine a_callVv (n := 3) [.int _, .int _, .int _] (C := RX0) (ci := 0) (qc := (RX0, TX0, 9)) (fsF := fl0 G _) hx3.1 (fun _ => en0 hx3.2) rfl rfl dX2_built_37 (s0_builds hx3 h) (gV tbc kM_RX2_78_X0_builds kI_X0_builds kS_X0_builds kN_RX0 kC_X0_builds) rfl (by decide +kernel) ⟨Nat.le_of_ble_eq_true rfl, Nat.le_of_ble_eq_true rfl⟩ rfl rfl (Nat.le_of_ble_eq_true rfl) ⟨Nat.le_refl 0, Nat.le_refl 0⟩ (fun M h => ?_)
          refine a_iconst (v := 1) dX2_built_40 (by decide) ?_
          exact a_zret dX2_built_41 (Or.inr rfl) ⟨_, rfl, h⟩
        · have h := h.2 c
          refine a_iconst (v := 0) dX2_built_31 (by decide) ?_
          exact a_zret dX2_built_32 (Or.inl rfl) ⟨_, rfl, h⟩

/-! X2_signAt -/
theorem dX2_signAt_0 : decode cX2_signAt 0 = .ok (.iload_n 1, 1) := by decide +kernel
theorem dX2_signAt_1 : decode cX2_signAt 1 = .ok (.ifCond .lt 26, 3) := by decide +kernel
theorem dX2_signAt_4 : decode cX2_signAt 4 = .ok (.iload_n 1, 1) := by decide +kernel
theorem dX2_signAt_5 : decode cX2_signAt 5 = .ok (.aload_n 0, 1) := by decide +kernel
theorem dX2_signAt_6 : decode cX2_signAt 6 = .ok (.getfield 15, 3) := by decide +kernel
theorem dX2_signAt_9 : decode cX2_signAt 9 = .ok (.if_icmp .ge 18, 3) := by decide +kernel
theorem dX2_signAt_12 : decode cX2_signAt 12 = .ok (.iload_n 1, 1) := by decide +kernel
theorem dX2_signAt_13 : decode cX2_signAt 13 = .ok (.bipush 96, 2) := by decide +kernel
theorem dX2_signAt_15 : decode cX2_signAt 15 = .ok (.if_icmp .ge 12, 3) := by decide +kernel
theorem dX2_signAt_18 : decode cX2_signAt 18 = .ok (.aload_n 0, 1) := by decide +kernel
theorem dX2_signAt_19 : decode cX2_signAt 19 = .ok (.getfield 9, 3) := by decide +kernel
theorem dX2_signAt_22 : decode cX2_signAt 22 = .ok (.iload_n 1, 1) := by decide +kernel
theorem dX2_signAt_23 : decode cX2_signAt 23 = .ok (.iaload, 1) := by decide +kernel
theorem dX2_signAt_24 : decode cX2_signAt 24 = .ok (.goto 5, 3) := by decide +kernel
theorem dX2_signAt_27 : decode cX2_signAt 27 = .ok (.bipush (-9), 2) := by decide +kernel
theorem dX2_signAt_29 : decode cX2_signAt 29 = .ok (.ireturn, 1) := by decide +kernel
abbrev A2_signAt (G : GG) (Q : Int32 → MM → Prop) := AW G E0 (MZ G (qI Q)) (WY yX2_signAt cX2_signAt 2 (some .int)) RX2 cX2_signAt 2 (some .int) ({ frames := 0, cells := 0, slots := 0, locals := 0 } : Room) 0 0
def D2_signAt (x1 : Int32) (M : MM) (Q : Int32 → MM → Prop) : Prop := ((x1 < 0 → Q (-9 : Int32) M) ∧ (¬ x1 < 0 → (((M 57 1) ≤ x1 → Q (-9 : Int32) M) ∧ (¬ (M 57 1) ≤ x1 → (((96 : Int32) ≤ x1 → Q (-9 : Int32) M) ∧ (¬ (96 : Int32) ≤ x1 → ib 58 x1 ∧ Q (M 58 (ix x1)) M))))))
set_option maxHeartbeats 4000000 in
set_option maxRecDepth 100000 in
theorem s2_signAt {G : GG} {x1 : Int32} {M : MM} {Q : Int32 → MM → Prop} (h : D2_signAt x1 M Q) : CM G yX2_signAt (WY yX2_signAt cX2_signAt 2 (some .int)) 0 0 [.ref (gA G 57), .int x1] M (qI Q) := by
  refine CM.of (cc := cX2_signAt) (nL := 2) (ret := (some .int)) (own := RX2) (by decide +kernel) rfl rfl (Nat.le_of_ble_eq_true rfl) ?_
  show A2_signAt G Q 0 [(0, .ref (gA G 57)), (1, .int x1)] [] M
  unfold D2_signAt at h
  refine a_iload_n dX2_signAt_0 1 rfl ?_
  refine a_if_lt (tgt := 27) dX2_signAt_1 (by decide) (fun c => ?_) (fun c => ?_)
  · have h := h.1 c
    refine a_bipush (v := -9) dX2_signAt_27 (by decide) ?_
    exact a_iret dX2_signAt_29 ⟨_, rfl, h⟩
  · have h := h.2 c
    refine a_iload_n dX2_signAt_4 1 rfl ?_
    refine a_aload_n dX2_signAt_5 0 rfl ?_
    refine a_get1 dX2_signAt_6 1 (by decide) (tbc _ kF_RX2_15) (fun w h => tbc _ (uW1 w h)) rfl ob_57 rfl ?_
    refine a_icmp_ge (tgt := 27) dX2_signAt_9 (by decide) (fun c => ?_) (fun c => ?_)
    · have h := h.1 c
      refine a_bipush (v := -9) dX2_signAt_27 (by decide) ?_
      exact a_iret dX2_signAt_29 ⟨_, rfl, h⟩
    · have h := h.2 c
      refine a_iload_n dX2_signAt_12 1 rfl ?_
      refine a_bipush (v := 96) dX2_signAt_13 (by decide) ?_
      refine a_icmp_ge (tgt := 27) dX2_signAt_15 (by decide) (fun c => ?_) (fun c => ?_)
      · have h := h.1 c
        refine a_bipush (v := -9) dX2_signAt_27 (by decide) ?_
        exact a_iret dX2_signAt_29 ⟨_, rfl, h⟩
      · have h := h.2 c
        refine a_aload_n dX2_signAt_18 0 rfl ?_
        refine a_get1 dX2_signAt_19 0 (by decide) (tbc _ kF_RX2_9) (fun w h => tbc _ (uW1 w h)) rfl ob_57 rfl ?_
        refine a_iload_n dX2_signAt_22 1 rfl ?_
        refine a_iald dX2_signAt_23 h.1 ?_
        have h := h.2
        refine a_goto (tgt := 29) dX2_signAt_24 (by decide) ?_
        exact a_iret dX2_signAt_29 ⟨_, rfl, h⟩

/-! X2_isDigit -/
theorem dX2_isDigit_0 : decode cX2_isDigit 0 = .ok (.aload_n 0, 1) := by decide +kernel
theorem dX2_isDigit_1 : decode cX2_isDigit 1 = .ok (.iload_n 1, 1) := by decide +kernel
theorem dX2_isDigit_2 : decode cX2_isDigit 2 = .ok (.invokevirtual 19, 3) := by decide +kernel
theorem dX2_isDigit_5 : decode cX2_isDigit 5 = .ok (.bipush 48, 2) := by decide +kernel
theorem dX2_isDigit_7 : decode cX2_isDigit 7 = .ok (.if_icmp .lt 17, 3) := by decide +kernel
theorem dX2_isDigit_10 : decode cX2_isDigit 10 = .ok (.aload_n 0, 1) := by decide +kernel
theorem dX2_isDigit_11 : decode cX2_isDigit 11 = .ok (.iload_n 1, 1) := by decide +kernel
theorem dX2_isDigit_12 : decode cX2_isDigit 12 = .ok (.invokevirtual 19, 3) := by decide +kernel
theorem dX2_isDigit_15 : decode cX2_isDigit 15 = .ok (.bipush 57, 2) := by decide +kernel
theorem dX2_isDigit_17 : decode cX2_isDigit 17 = .ok (.if_icmp .gt 7, 3) := by decide +kernel
theorem dX2_isDigit_20 : decode cX2_isDigit 20 = .ok (.iconst 1, 1) := by decide +kernel
theorem dX2_isDigit_21 : decode cX2_isDigit 21 = .ok (.goto 4, 3) := by decide +kernel
theorem dX2_isDigit_24 : decode cX2_isDigit 24 = .ok (.iconst 0, 1) := by decide +kernel
theorem dX2_isDigit_25 : decode cX2_isDigit 25 = .ok (.ireturn, 1) := by decide +kernel
abbrev A2_isDigit (G : GG) (Q : Int32 → MM → Prop) := AW G E0 (MZ G (qI Q)) (WY yX2_isDigit cX2_isDigit 2 (some .boolean)) RX2 cX2_isDigit 2 (some .boolean) ({ frames := 1, cells := 0, slots := 0, locals := 21 } : Room) 0 0
def D2_isDigit (x1 : Int32) (M : MM) (Q : Int32 → MM → Prop) : Prop := D2_signAt x1 M (fun (r1 : Int32) (M2 : MM) => ((r1 < (48 : Int32) → Q (0 : Int32) M2) ∧ (¬ r1 < (48 : Int32) → D2_signAt x1 M2 (fun (r3 : Int32) (M4 : MM) => (((57 : Int32) < r3 → Q (0 : Int32) M4) ∧ (¬ (57 : Int32) < r3 → Q (1 : Int32) M4))))))
set_option maxHeartbeats 4000000 in
set_option maxRecDepth 100000 in
theorem s2_isDigit {G : GG} {x1 : Int32} {M : MM} {Q : Int32 → MM → Prop} (h : D2_isDigit x1 M Q) : CM G yX2_isDigit (WY yX2_isDigit cX2_isDigit 2 (some .boolean)) 1 21 [.ref (gA G 57), .int x1] M (qI Q) := by
  refine CM.of (cc := cX2_isDigit) (nL := 2) (ret := (some .boolean)) (own := RX2) (by decide +kernel) rfl rfl (Nat.le_of_ble_eq_true rfl) ?_
  show A2_isDigit G Q 0 [(0, .ref (gA G 57)), (1, .int x1)] [] M
  unfold D2_isDigit at h
  refine a_aload_n dX2_isDigit_0 0 rfl ?_
  refine a_iload_n dX2_isDigit_1 1 rfl ?_
  refine a_callVi (n := 1) [.int _] (C := RX2) (ci := 1) (qc := (RX2, TX2, 2)) (fsF := fl1 G _) ob_57.1 (fun _ => en1 ob_57.2) rfl rfl dX2_isDigit_2 (s2_signAt h) (gV tbc kM_RX2_19_X2_signAt kI_X2_signAt kS_X2_signAt kN_RX2 kC_X2_signAt) rfl (by decide +kernel) ⟨Nat.le_of_ble_eq_true rfl, Nat.le_of_ble_eq_true rfl⟩ rfl rfl (Nat.le_of_ble_eq_true rfl) ⟨Nat.le_refl 0, Nat.le_refl 0⟩ (fun r M h => ?_)
  refine a_bipush (v := 48) dX2_isDigit_5 (by decide) ?_
  refine a_icmp_lt (tgt := 24) dX2_isDigit_7 (by decide) (fun c => ?_) (fun c => ?_)
  · have h := h.1 c
    refine a_iconst (v := 0) dX2_isDigit_24 (by decide) ?_
    exact a_zret dX2_isDigit_25 (Or.inl rfl) ⟨_, rfl, h⟩
  · have h := h.2 c
    refine a_aload_n dX2_isDigit_10 0 rfl ?_
    refine a_iload_n dX2_isDigit_11 1 rfl ?_
    refine a_callVi (n := 1) [.int _] (C := RX2) (ci := 1) (qc := (RX2, TX2, 2)) (fsF := fl1 G _) ob_57.1 (fun _ => en1 ob_57.2) rfl rfl dX2_isDigit_12 (s2_signAt h) (gV tbc kM_RX2_19_X2_signAt kI_X2_signAt kS_X2_signAt kN_RX2 kC_X2_signAt) rfl (by decide +kernel) ⟨Nat.le_of_ble_eq_true rfl, Nat.le_of_ble_eq_true rfl⟩ rfl rfl (Nat.le_of_ble_eq_true rfl) ⟨Nat.le_refl 0, Nat.le_refl 0⟩ (fun r M h => ?_)
    refine a_bipush (v := 57) dX2_isDigit_15 (by decide) ?_
    refine a_icmp_gt (tgt := 24) dX2_isDigit_17 (by decide) (fun c => ?_) (fun c => ?_)
    · have h := h.1 c
      refine a_iconst (v := 0) dX2_isDigit_24 (by decide) ?_
      exact a_zret dX2_isDigit_25 (Or.inl rfl) ⟨_, rfl, h⟩
    · have h := h.2 c
      refine a_iconst (v := 1) dX2_isDigit_20 (by decide) ?_
      refine a_goto (tgt := 25) dX2_isDigit_21 (by decide) ?_
      exact a_zret dX2_isDigit_25 (Or.inr rfl) ⟨_, rfl, h⟩

/-! X2_digit -/
theorem dX2_digit_0 : decode cX2_digit 0 = .ok (.aload_n 0, 1) := by decide +kernel
theorem dX2_digit_1 : decode cX2_digit 1 = .ok (.iload_n 1, 1) := by decide +kernel
theorem dX2_digit_2 : decode cX2_digit 2 = .ok (.invokevirtual 23, 3) := by decide +kernel
theorem dX2_digit_5 : decode cX2_digit 5 = .ok (.ifCond .eq 14, 3) := by decide +kernel
theorem dX2_digit_8 : decode cX2_digit 8 = .ok (.aload_n 0, 1) := by decide +kernel
theorem dX2_digit_9 : decode cX2_digit 9 = .ok (.iload_n 1, 1) := by decide +kernel
theorem dX2_digit_10 : decode cX2_digit 10 = .ok (.invokevirtual 19, 3) := by decide +kernel
theorem dX2_digit_13 : decode cX2_digit 13 = .ok (.bipush 48, 2) := by decide +kernel
theorem dX2_digit_15 : decode cX2_digit 15 = .ok (.isub, 1) := by decide +kernel
theorem dX2_digit_16 : decode cX2_digit 16 = .ok (.goto 4, 3) := by decide +kernel
theorem dX2_digit_19 : decode cX2_digit 19 = .ok (.iconst 0, 1) := by decide +kernel
theorem dX2_digit_20 : decode cX2_digit 20 = .ok (.ireturn, 1) := by decide +kernel
abbrev A2_digit (G : GG) (Q : Int32 → MM → Prop) := AW G E0 (MZ G (qI Q)) (WY yX2_digit cX2_digit 2 (some .int)) RX2 cX2_digit 2 (some .int) ({ frames := 2, cells := 0, slots := 0, locals := 42 } : Room) 0 0
def D2_digit (x1 : Int32) (M : MM) (Q : Int32 → MM → Prop) : Prop := D2_isDigit x1 M (fun (r1 : Int32) (M2 : MM) => ((r1 = 0 → Q (0 : Int32) M2) ∧ (¬ r1 = 0 → D2_signAt x1 M2 (fun (r3 : Int32) (M4 : MM) => Q (r3 - (48 : Int32)) M4))))
set_option maxHeartbeats 4000000 in
set_option maxRecDepth 100000 in
theorem s2_digit {G : GG} {x1 : Int32} {M : MM} {Q : Int32 → MM → Prop} (h : D2_digit x1 M Q) : CM G yX2_digit (WY yX2_digit cX2_digit 2 (some .int)) 2 42 [.ref (gA G 57), .int x1] M (qI Q) := by
  refine CM.of (cc := cX2_digit) (nL := 2) (ret := (some .int)) (own := RX2) (by decide +kernel) rfl rfl (Nat.le_of_ble_eq_true rfl) ?_
  show A2_digit G Q 0 [(0, .ref (gA G 57)), (1, .int x1)] [] M
  unfold D2_digit at h
  refine a_aload_n dX2_digit_0 0 rfl ?_
  refine a_iload_n dX2_digit_1 1 rfl ?_
  refine a_callVi (n := 1) [.int _] (C := RX2) (ci := 1) (qc := (RX2, TX2, 2)) (fsF := fl1 G _) ob_57.1 (fun _ => en1 ob_57.2) rfl rfl dX2_digit_2 (s2_isDigit h) (gV tbc kM_RX2_23_X2_isDigit kI_X2_isDigit kS_X2_isDigit kN_RX2 kC_X2_isDigit) rfl (by decide +kernel) ⟨Nat.le_of_ble_eq_true rfl, Nat.le_of_ble_eq_true rfl⟩ rfl rfl (Nat.le_of_ble_eq_true rfl) ⟨Nat.le_refl 0, Nat.le_refl 0⟩ (fun r M h => ?_)
  refine a_if_eq (tgt := 19) dX2_digit_5 (by decide) (fun c => ?_) (fun c => ?_)
  · have h := h.1 c
    refine a_iconst (v := 0) dX2_digit_19 (by decide) ?_
    exact a_iret dX2_digit_20 ⟨_, rfl, h⟩
  · have h := h.2 c
    refine a_aload_n dX2_digit_8 0 rfl ?_
    refine a_iload_n dX2_digit_9 1 rfl ?_
    refine a_callVi (n := 1) [.int _] (C := RX2) (ci := 1) (qc := (RX2, TX2, 2)) (fsF := fl1 G _) ob_57.1 (fun _ => en1 ob_57.2) rfl rfl dX2_digit_10 (s2_signAt h) (gV tbc kM_RX2_19_X2_signAt kI_X2_signAt kS_X2_signAt kN_RX2 kC_X2_signAt) rfl (by decide +kernel) ⟨Nat.le_of_ble_eq_true rfl, Nat.le_of_ble_eq_true rfl⟩ rfl rfl (Nat.le_of_ble_eq_true rfl) ⟨Nat.le_refl 0, Nat.le_refl 0⟩ (fun r M h => ?_)
    refine a_bipush (v := 48) dX2_digit_13 (by decide) ?_
    refine a_isub dX2_digit_15 ?_
    refine a_goto (tgt := 20) dX2_digit_16 (by decide) ?_
    exact a_iret dX2_digit_20 ⟨_, rfl, h⟩

/-! X2_twoDigits -/
theorem dX2_twoDigits_0 : decode cX2_twoDigits 0 = .ok (.bipush 10, 2) := by decide +kernel
theorem dX2_twoDigits_2 : decode cX2_twoDigits 2 = .ok (.aload_n 0, 1) := by decide +kernel
theorem dX2_twoDigits_3 : decode cX2_twoDigits 3 = .ok (.iload_n 1, 1) := by decide +kernel
theorem dX2_twoDigits_4 : decode cX2_twoDigits 4 = .ok (.invokevirtual 27, 3) := by decide +kernel
theorem dX2_twoDigits_7 : decode cX2_twoDigits 7 = .ok (.imul, 1) := by decide +kernel
theorem dX2_twoDigits_8 : decode cX2_twoDigits 8 = .ok (.aload_n 0, 1) := by decide +kernel
theorem dX2_twoDigits_9 : decode cX2_twoDigits 9 = .ok (.iload_n 1, 1) := by decide +kernel
theorem dX2_twoDigits_10 : decode cX2_twoDigits 10 = .ok (.iconst 1, 1) := by decide +kernel
theorem dX2_twoDigits_11 : decode cX2_twoDigits 11 = .ok (.iadd, 1) := by decide +kernel
theorem dX2_twoDigits_12 : decode cX2_twoDigits 12 = .ok (.invokevirtual 27, 3) := by decide +kernel
theorem dX2_twoDigits_15 : decode cX2_twoDigits 15 = .ok (.iadd, 1) := by decide +kernel
theorem dX2_twoDigits_16 : decode cX2_twoDigits 16 = .ok (.ireturn, 1) := by decide +kernel
abbrev A2_twoDigits (G : GG) (Q : Int32 → MM → Prop) := AW G E0 (MZ G (qI Q)) (WY yX2_twoDigits cX2_twoDigits 2 (some .int)) RX2 cX2_twoDigits 2 (some .int) ({ frames := 3, cells := 0, slots := 0, locals := 63 } : Room) 0 0
def D2_twoDigits (x1 : Int32) (M : MM) (Q : Int32 → MM → Prop) : Prop := D2_digit x1 M (fun (r1 : Int32) (M2 : MM) => D2_digit (x1 + (1 : Int32)) M2 (fun (r3 : Int32) (M4 : MM) => Q (((10 : Int32) * r1) + r3) M4))
set_option maxHeartbeats 4000000 in
set_option maxRecDepth 100000 in
theorem s2_twoDigits {G : GG} {x1 : Int32} {M : MM} {Q : Int32 → MM → Prop} (h : D2_twoDigits x1 M Q) : CM G yX2_twoDigits (WY yX2_twoDigits cX2_twoDigits 2 (some .int)) 3 63 [.ref (gA G 57), .int x1] M (qI Q) := by
  refine CM.of (cc := cX2_twoDigits) (nL := 2) (ret := (some .int)) (own := RX2) (by decide +kernel) rfl rfl (Nat.le_of_ble_eq_true rfl) ?_
  show A2_twoDigits G Q 0 [(0, .ref (gA G 57)), (1, .int x1)] [] M
  unfold D2_twoDigits at h
  refine a_bipush (v := 10) dX2_twoDigits_0 (by decide) ?_
  refine a_aload_n dX2_twoDigits_2 0 rfl ?_
  refine a_iload_n dX2_twoDigits_3 1 rfl ?_
  refine a_callVi (n := 1) [.int _] (C := RX2) (ci := 1) (qc := (RX2, TX2, 2)) (fsF := fl1 G _) ob_57.1 (fun _ => en1 ob_57.2) rfl rfl dX2_twoDigits_4 (s2_digit h) (gV tbc kM_RX2_27_X2_digit kI_X2_digit kS_X2_digit kN_RX2 kC_X2_digit) rfl (by decide +kernel) ⟨Nat.le_of_ble_eq_true rfl, Nat.le_of_ble_eq_true rfl⟩ rfl rfl (Nat.le_of_ble_eq_true rfl) ⟨Nat.le_refl 0, Nat.le_refl 0⟩ (fun r M h => ?_)
  refine a_imul dX2_twoDigits_7 ?_
  refine a_aload_n dX2_twoDigits_8 0 rfl ?_
  refine a_iload_n dX2_twoDigits_9 1 rfl ?_
  refine a_iconst (v := 1) dX2_twoDigits_10 (by decide) ?_
  refine a_iadd dX2_twoDigits_11 ?_
  refine a_callVi (n := 1) [.int _] (C := RX2) (ci := 1) (qc := (RX2, TX2, 2)) (fsF := fl1 G _) ob_57.1 (fun _ => en1 ob_57.2) rfl rfl dX2_twoDigits_12 (s2_digit h) (gV tbc kM_RX2_27_X2_digit kI_X2_digit kS_X2_digit kN_RX2 kC_X2_digit) rfl (by decide +kernel) ⟨Nat.le_of_ble_eq_true rfl, Nat.le_of_ble_eq_true rfl⟩ rfl rfl (Nat.le_of_ble_eq_true rfl) ⟨Nat.le_refl 0, Nat.le_refl 0⟩ (fun r M h => ?_)
  refine a_iadd dX2_twoDigits_15 ?_
  exact a_iret dX2_twoDigits_16 ⟨_, rfl, h⟩

/-! X2_lost -/
theorem dX2_lost_0 : decode cX2_lost 0 = .ok (.aload_n 1, 1) := by decide +kernel
theorem dX2_lost_1 : decode cX2_lost 1 = .ok (.iload_n 0, 1) := by decide +kernel
theorem dX2_lost_2 : decode cX2_lost 2 = .ok (.invokevirtual 82, 3) := by decide +kernel
theorem dX2_lost_5 : decode cX2_lost 5 = .ok (.istore_n 2, 1) := by decide +kernel
theorem dX2_lost_6 : decode cX2_lost 6 = .ok (.aload_n 1, 1) := by decide +kernel
theorem dX2_lost_7 : decode cX2_lost 7 = .ok (.iload_n 0, 1) := by decide +kernel
theorem dX2_lost_8 : decode cX2_lost 8 = .ok (.invokevirtual 85, 3) := by decide +kernel
theorem dX2_lost_11 : decode cX2_lost 11 = .ok (.iload_n 2, 1) := by decide +kernel
theorem dX2_lost_12 : decode cX2_lost 12 = .ok (.ireturn, 1) := by decide +kernel
abbrev A2_lost (G : GG) (Q : Int32 → MM → Prop) := AW G E0 (MZ G (qI Q)) (WY yX2_lost cX2_lost 3 (some .boolean)) RX2 cX2_lost 3 (some .boolean) ({ frames := 2, cells := 0, slots := 0, locals := 42 } : Room) 0 0
def D2_lost (x0 : Int32) (x1 : Nat) (M : MM) (Q : Int32 → MM → Prop) : Prop := D0_stands x1 x0 M (fun (r1 : Int32) (M2 : MM) => D0_loses x1 x0 M2 (fun (M4 : MM) => bo r1 ∧ Q r1 M4))
set_option maxHeartbeats 4000000 in
set_option maxRecDepth 100000 in
theorem s2_lost {G : GG} {x0 : Int32} {x1 : Nat} {M : MM} {Q : Int32 → MM → Prop} (hx1 : ob x1 0) (h : D2_lost x0 x1 M Q) : CM G yX2_lost (WY yX2_lost cX2_lost 3 (some .boolean)) 2 42 [.int x0, .ref (gA G x1)] M (qI Q) := by
  refine CM.of (cc := cX2_lost) (nL := 3) (ret := (some .boolean)) (own := RX2) (by decide +kernel) rfl rfl (Nat.le_of_ble_eq_true rfl) ?_
  show A2_lost G Q 0 [(0, .int x0), (1, .ref (gA G x1))] [] M
  unfold D2_lost at h
  refine a_aload_n dX2_lost_0 1 rfl ?_
  refine a_iload_n dX2_lost_1 0 rfl ?_
  refine a_callVi (n := 1) [.int _] (C := RX0) (ci := 0) (qc := (RX0, TX0, 9)) (fsF := fl0 G _) hx1.1 (fun _ => en0 hx1.2) rfl rfl dX2_lost_2 (s0_stands hx1 h) (gV tbc kM_RX2_82_X0_stands kI_X0_stands kS_X0_stands kN_RX0 kC_X0_stands) rfl (by decide +kernel) ⟨Nat.le_of_ble_eq_true rfl, Nat.le_of_ble_eq_true rfl⟩ rfl rfl (Nat.le_of_ble_eq_true rfl) ⟨Nat.le_refl 0, Nat.le_refl 0⟩ (fun r M h => ?_)
  refine a_istore_n (i := 2) (L' := [(2, .int _), (0, .int _), (1, .ref _)]) dX2_lost_5 rfl (by decide) rfl ?_
  refine a_aload_n dX2_lost_6 2 rfl ?_
  refine a_iload_n dX2_lost_7 1 rfl ?_
  refine a_callVv (n := 1) [.int _] (C := RX0) (ci := 0) (qc := (RX0, TX0, 9)) (fsF := fl0 G _) hx1.1 (fun _ => en0 hx1.2) rfl rfl dX2_lost_8 (s0_loses hx1 h) (gV tbc kM_RX2_85_X0_loses kI_X0_loses kS_X0_loses kN_RX0 kC_X0_loses) rfl (by decide +kernel) ⟨Nat.le_of_ble_eq_true rfl, Nat.le_of_ble_eq_true rfl⟩ rfl rfl (Nat.le_of_ble_eq_true rfl) ⟨Nat.le_refl 0, Nat.le_refl 0⟩ (fun M h => ?_)
  refine a_iload_n dX2_lost_11 0 rfl ?_
  exact a_zret dX2_lost_12 h.1 ⟨_, rfl, h.2⟩

/-! X2_wornBy -/
theorem dX2_wornBy_0 : decode cX2_wornBy 0 = .ok (.aload_n 2, 1) := by decide +kernel
theorem dX2_wornBy_1 : decode cX2_wornBy 1 = .ok (.iload_n 0, 1) := by decide +kernel
theorem dX2_wornBy_2 : decode cX2_wornBy 2 = .ok (.invokevirtual 82, 3) := by decide +kernel
theorem dX2_wornBy_5 : decode cX2_wornBy 5 = .ok (.ifCond .ne 5, 3) := by decide +kernel
theorem dX2_wornBy_8 : decode cX2_wornBy 8 = .ok (.iconst 0, 1) := by decide +kernel
theorem dX2_wornBy_9 : decode cX2_wornBy 9 = .ok (.ireturn, 1) := by decide +kernel
theorem dX2_wornBy_10 : decode cX2_wornBy 10 = .ok (.aload_n 2, 1) := by decide +kernel
theorem dX2_wornBy_11 : decode cX2_wornBy 11 = .ok (.iload_n 0, 1) := by decide +kernel
theorem dX2_wornBy_12 : decode cX2_wornBy 12 = .ok (.iload_n 1, 1) := by decide +kernel
theorem dX2_wornBy_13 : decode cX2_wornBy 13 = .ok (.invokevirtual 89, 3) := by decide +kernel
theorem dX2_wornBy_16 : decode cX2_wornBy 16 = .ok (.iconst 1, 1) := by decide +kernel
theorem dX2_wornBy_17 : decode cX2_wornBy 17 = .ok (.ireturn, 1) := by decide +kernel
abbrev A2_wornBy (G : GG) (Q : Int32 → MM → Prop) := AW G E0 (MZ G (qI Q)) (WY yX2_wornBy cX2_wornBy 3 (some .boolean)) RX2 cX2_wornBy 3 (some .boolean) ({ frames := 2, cells := 0, slots := 0, locals := 43 } : Room) 0 0
def D2_wornBy (x0 : Int32) (x1 : Int32) (x2 : Nat) (M : MM) (Q : Int32 → MM → Prop) : Prop := D0_stands x2 x0 M (fun (r1 : Int32) (M2 : MM) => ((r1 ≠ 0 → D0_wears x2 x0 x1 M2 (fun (M4 : MM) => Q (1 : Int32) M4)) ∧ (r1 = 0 → Q (0 : Int32) M2)))
set_option maxHeartbeats 4000000 in
set_option maxRecDepth 100000 in
theorem s2_wornBy {G : GG} {x0 : Int32} {x1 : Int32} {x2 : Nat} {M : MM} {Q : Int32 → MM → Prop} (hx2 : ob x2 0) (h : D2_wornBy x0 x1 x2 M Q) : CM G yX2_wornBy (WY yX2_wornBy cX2_wornBy 3 (some .boolean)) 2 43 [.int x0, .int x1, .ref (gA G x2)] M (qI Q) := by
  refine CM.of (cc := cX2_wornBy) (nL := 3) (ret := (some .boolean)) (own := RX2) (by decide +kernel) rfl rfl (Nat.le_of_ble_eq_true rfl) ?_
  show A2_wornBy G Q 0 [(0, .int x0), (1, .int x1), (2, .ref (gA G x2))] [] M
  unfold D2_wornBy at h
  refine a_aload_n dX2_wornBy_0 2 rfl ?_
  refine a_iload_n dX2_wornBy_1 0 rfl ?_
  refine a_callVi (n := 1) [.int _] (C := RX0) (ci := 0) (qc := (RX0, TX0, 9)) (fsF := fl0 G _) hx2.1 (fun _ => en0 hx2.2) rfl rfl dX2_wornBy_2 (s0_stands hx2 h) (gV tbc kM_RX2_82_X0_stands kI_X0_stands kS_X0_stands kN_RX0 kC_X0_stands) rfl (by decide +kernel) ⟨Nat.le_of_ble_eq_true rfl, Nat.le_of_ble_eq_true rfl⟩ rfl rfl (Nat.le_of_ble_eq_true rfl) ⟨Nat.le_refl 0, Nat.le_refl 0⟩ (fun r M h => ?_)
  refine a_if_ne (tgt := 10) dX2_wornBy_5 (by decide) (fun c => ?_) (fun c => ?_)
  · have h := h.1 c
    refine a_aload_n dX2_wornBy_10 2 rfl ?_
    refine a_iload_n dX2_wornBy_11 0 rfl ?_
    refine a_iload_n dX2_wornBy_12 1 rfl ?_
    refine a_callVv (n := 2) [.int _, .int _] (C := RX0) (ci := 0) (qc := (RX0, TX0, 9)) (fsF := fl0 G _) hx2.1 (fun _ => en0 hx2.2) rfl rfl dX2_wornBy_13 (s0_wears hx2 h) (gV tbc kM_RX2_89_X0_wears kI_X0_wears kS_X0_wears kN_RX0 kC_X0_wears) rfl (by decide +kernel) ⟨Nat.le_of_ble_eq_true rfl, Nat.le_of_ble_eq_true rfl⟩ rfl rfl (Nat.le_of_ble_eq_true rfl) ⟨Nat.le_refl 0, Nat.le_refl 0⟩ (fun M h => ?_)
    refine a_iconst (v := 1) dX2_wornBy_16 (by decide) ?_
    exact a_zret dX2_wornBy_17 (Or.inr rfl) ⟨_, rfl, h⟩
  · have h := h.2 c
    refine a_iconst (v := 0) dX2_wornBy_8 (by decide) ?_
    exact a_zret dX2_wornBy_9 (Or.inl rfl) ⟨_, rfl, h⟩

/-! X2_paid -/
theorem dX2_paid_0 : decode cX2_paid 0 = .ok (.aload_n 0, 1) := by decide +kernel
theorem dX2_paid_1 : decode cX2_paid 1 = .ok (.invokevirtual 93, 3) := by decide +kernel
theorem dX2_paid_4 : decode cX2_paid 4 = .ok (.iconst 1, 1) := by decide +kernel
theorem dX2_paid_5 : decode cX2_paid 5 = .ok (.ireturn, 1) := by decide +kernel
abbrev A2_paid (G : GG) (Q : Int32 → MM → Prop) := AW G E0 (MZ G (qI Q)) (WY yX2_paid cX2_paid 1 (some .boolean)) RX2 cX2_paid 1 (some .boolean) ({ frames := 2, cells := 0, slots := 0, locals := 41 } : Room) 0 0
def D2_paid (x0 : Nat) (M : MM) (Q : Int32 → MM → Prop) : Prop := D0_settles x0 M (fun (M2 : MM) => Q (1 : Int32) M2)
set_option maxHeartbeats 4000000 in
set_option maxRecDepth 100000 in
theorem s2_paid {G : GG} {x0 : Nat} {M : MM} {Q : Int32 → MM → Prop} (hx0 : ob x0 0) (h : D2_paid x0 M Q) : CM G yX2_paid (WY yX2_paid cX2_paid 1 (some .boolean)) 2 41 [.ref (gA G x0)] M (qI Q) := by
  refine CM.of (cc := cX2_paid) (nL := 1) (ret := (some .boolean)) (own := RX2) (by decide +kernel) rfl rfl (Nat.le_of_ble_eq_true rfl) ?_
  show A2_paid G Q 0 [(0, .ref (gA G x0))] [] M
  unfold D2_paid at h
  refine a_aload_n dX2_paid_0 0 rfl ?_
  refine a_callVv (n := 0) [] (C := RX0) (ci := 0) (qc := (RX0, TX0, 9)) (fsF := fl0 G _) hx0.1 (fun _ => en0 hx0.2) rfl rfl dX2_paid_1 (s0_settles hx0 h) (gV tbc kM_RX2_93_X0_settles kI_X0_settles kS_X0_settles kN_RX0 kC_X0_settles) rfl (by decide +kernel) ⟨Nat.le_of_ble_eq_true rfl, Nat.le_of_ble_eq_true rfl⟩ rfl rfl (Nat.le_of_ble_eq_true rfl) ⟨Nat.le_refl 0, Nat.le_refl 0⟩ (fun M h => ?_)
  refine a_iconst (v := 1) dX2_paid_4 (by decide) ?_
  exact a_zret dX2_paid_5 (Or.inr rfl) ⟨_, rfl, h⟩

/-! X2_passed -/
theorem dX2_passed_0 : decode cX2_passed 0 = .ok (.iload_n 0, 1) := by decide +kernel
theorem dX2_passed_1 : decode cX2_passed 1 = .ok (.iconst 1, 1) := by decide +kernel
theorem dX2_passed_2 : decode cX2_passed 2 = .ok (.if_icmp .lt 21, 3) := by decide +kernel
theorem dX2_passed_5 : decode cX2_passed 5 = .ok (.iload_n 0, 1) := by decide +kernel
theorem dX2_passed_6 : decode cX2_passed 6 = .ok (.bipush 60, 2) := by decide +kernel
theorem dX2_passed_8 : decode cX2_passed 8 = .ok (.if_icmp .gt 15, 3) := by decide +kernel
theorem dX2_passed_11 : decode cX2_passed 11 = .ok (.aload_n 1, 1) := by decide +kernel
theorem dX2_passed_12 : decode cX2_passed 12 = .ok (.getfield 96, 3) := by decide +kernel
theorem dX2_passed_15 : decode cX2_passed 15 = .ok (.iload_n 0, 1) := by decide +kernel
theorem dX2_passed_16 : decode cX2_passed 16 = .ok (.iadd, 1) := by decide +kernel
theorem dX2_passed_17 : decode cX2_passed 17 = .ok (.sipush 999, 3) := by decide +kernel
theorem dX2_passed_20 : decode cX2_passed 20 = .ok (.if_icmp .le 5, 3) := by decide +kernel
theorem dX2_passed_23 : decode cX2_passed 23 = .ok (.iconst 0, 1) := by decide +kernel
theorem dX2_passed_24 : decode cX2_passed 24 = .ok (.ireturn, 1) := by decide +kernel
theorem dX2_passed_25 : decode cX2_passed 25 = .ok (.aload_n 1, 1) := by decide +kernel
theorem dX2_passed_26 : decode cX2_passed 26 = .ok (.iload_n 0, 1) := by decide +kernel
theorem dX2_passed_27 : decode cX2_passed 27 = .ok (.invokevirtual 99, 3) := by decide +kernel
theorem dX2_passed_30 : decode cX2_passed 30 = .ok (.iconst 1, 1) := by decide +kernel
theorem dX2_passed_31 : decode cX2_passed 31 = .ok (.ireturn, 1) := by decide +kernel
abbrev A2_passed (G : GG) (Q : Int32 → MM → Prop) := AW G E0 (MZ G (qI Q)) (WY yX2_passed cX2_passed 2 (some .boolean)) RX2 cX2_passed 2 (some .boolean) ({ frames := 4, cells := 0, slots := 0, locals := 94 } : Room) 0 0
def D2_passed (x0 : Int32) (x1 : Nat) (M : MM) (Q : Int32 → MM → Prop) : Prop := ((x0 < (1 : Int32) → Q (0 : Int32) M) ∧ (¬ x0 < (1 : Int32) → (((60 : Int32) < x0 → Q (0 : Int32) M) ∧ (¬ (60 : Int32) < x0 → ((((M x1 6) + x0) ≤ (999 : Int32) → D0_goesOn x1 x0 M (fun (M2 : MM) => Q (1 : Int32) M2)) ∧ (¬ ((M x1 6) + x0) ≤ (999 : Int32) → Q (0 : Int32) M))))))
set_option maxHeartbeats 4000000 in
set_option maxRecDepth 100000 in
theorem s2_passed {G : GG} {x0 : Int32} {x1 : Nat} {M : MM} {Q : Int32 → MM → Prop} (hx1 : ob x1 0) (h : D2_passed x0 x1 M Q) : CM G yX2_passed (WY yX2_passed cX2_passed 2 (some .boolean)) 4 94 [.int x0, .ref (gA G x1)] M (qI Q) := by
  refine CM.of (cc := cX2_passed) (nL := 2) (ret := (some .boolean)) (own := RX2) (by decide +kernel) rfl rfl (Nat.le_of_ble_eq_true rfl) ?_
  show A2_passed G Q 0 [(0, .int x0), (1, .ref (gA G x1))] [] M
  unfold D2_passed at h
  refine a_iload_n dX2_passed_0 0 rfl ?_
  refine a_iconst (v := 1) dX2_passed_1 (by decide) ?_
  refine a_icmp_lt (tgt := 23) dX2_passed_2 (by decide) (fun c => ?_) (fun c => ?_)
  · have h := h.1 c
    refine a_iconst (v := 0) dX2_passed_23 (by decide) ?_
    exact a_zret dX2_passed_24 (Or.inl rfl) ⟨_, rfl, h⟩
  · have h := h.2 c
    refine a_iload_n dX2_passed_5 0 rfl ?_
    refine a_bipush (v := 60) dX2_passed_6 (by decide) ?_
    refine a_icmp_gt (tgt := 23) dX2_passed_8 (by decide) (fun c => ?_) (fun c => ?_)
    · have h := h.1 c
      refine a_iconst (v := 0) dX2_passed_23 (by decide) ?_
      exact a_zret dX2_passed_24 (Or.inl rfl) ⟨_, rfl, h⟩
    · have h := h.2 c
      refine a_aload_n dX2_passed_11 1 rfl ?_
      refine a_getN0 dX2_passed_12 6 (by decide) (fun _ h => h.2.2.2.2.2.2.1) (fun w h => tbc _ (uW0 w h)) rfl hx1 rfl ?_
      refine a_iload_n dX2_passed_15 0 rfl ?_
      refine a_iadd dX2_passed_16 ?_
      refine a_sipush (v := 999) dX2_passed_17 (by decide) ?_
      refine a_icmp_le (tgt := 25) dX2_passed_20 (by decide) (fun c => ?_) (fun c => ?_)
      · have h := h.1 c
        refine a_aload_n dX2_passed_25 1 rfl ?_
        refine a_iload_n dX2_passed_26 0 rfl ?_
        refine a_callVv (n := 1) [.int _] (C := RX0) (ci := 0) (qc := (RX0, TX0, 9)) (fsF := fl0 G _) hx1.1 (fun _ => en0 hx1.2) rfl rfl dX2_passed_27 (s0_goesOn hx1 h) (gV tbc kM_RX2_99_X0_goesOn kI_X0_goesOn kS_X0_goesOn kN_RX0 kC_X0_goesOn) rfl (by decide +kernel) ⟨Nat.le_of_ble_eq_true rfl, Nat.le_of_ble_eq_true rfl⟩ rfl rfl (Nat.le_of_ble_eq_true rfl) ⟨Nat.le_refl 0, Nat.le_refl 0⟩ (fun M h => ?_)
        refine a_iconst (v := 1) dX2_passed_30 (by decide) ?_
        exact a_zret dX2_passed_31 (Or.inr rfl) ⟨_, rfl, h⟩
      · have h := h.2 c
        refine a_iconst (v := 0) dX2_passed_23 (by decide) ?_
        exact a_zret dX2_passed_24 (Or.inl rfl) ⟨_, rfl, h⟩

/-! X2_comes -/
theorem dX2_comes_0 : decode cX2_comes 0 = .ok (.aload_n 2, 1) := by decide +kernel
theorem dX2_comes_1 : decode cX2_comes 1 = .ok (.ifnonnull 5, 3) := by decide +kernel
theorem dX2_comes_4 : decode cX2_comes 4 = .ok (.iconst 0, 1) := by decide +kernel
theorem dX2_comes_5 : decode cX2_comes 5 = .ok (.ireturn, 1) := by decide +kernel
theorem dX2_comes_6 : decode cX2_comes 6 = .ok (.aload_n 0, 1) := by decide +kernel
theorem dX2_comes_7 : decode cX2_comes 7 = .ok (.iload_n 1, 1) := by decide +kernel
theorem dX2_comes_8 : decode cX2_comes 8 = .ok (.iconst 1, 1) := by decide +kernel
theorem dX2_comes_9 : decode cX2_comes 9 = .ok (.iadd, 1) := by decide +kernel
theorem dX2_comes_10 : decode cX2_comes 10 = .ok (.invokevirtual 27, 3) := by decide +kernel
theorem dX2_comes_13 : decode cX2_comes 13 = .ok (.istore_n 3, 1) := by decide +kernel
theorem dX2_comes_14 : decode cX2_comes 14 = .ok (.aload_n 0, 1) := by decide +kernel
theorem dX2_comes_15 : decode cX2_comes 15 = .ok (.iload_n 1, 1) := by decide +kernel
theorem dX2_comes_16 : decode cX2_comes 16 = .ok (.iconst 2, 1) := by decide +kernel
theorem dX2_comes_17 : decode cX2_comes 17 = .ok (.iadd, 1) := by decide +kernel
theorem dX2_comes_18 : decode cX2_comes 18 = .ok (.invokevirtual 27, 3) := by decide +kernel
theorem dX2_comes_21 : decode cX2_comes 21 = .ok (.istore 4, 2) := by decide +kernel
theorem dX2_comes_23 : decode cX2_comes 23 = .ok (.aload_n 0, 1) := by decide +kernel
theorem dX2_comes_24 : decode cX2_comes 24 = .ok (.iload_n 1, 1) := by decide +kernel
theorem dX2_comes_25 : decode cX2_comes 25 = .ok (.invokevirtual 19, 3) := by decide +kernel
theorem dX2_comes_28 : decode cX2_comes 28 = .ok (.tableswitch 145 102 120 #[113, 145, 133, 145, 145, 145, 145, 145, 145, 145, 128, 145, 107, 145, 145, 145, 145, 92, 120], 92) := by decide +kernel
theorem dX2_comes_120 : decode cX2_comes 120 = .ok (.iload_n 3, 1) := by decide +kernel
theorem dX2_comes_121 : decode cX2_comes 121 = .ok (.iload 4, 2) := by decide +kernel
theorem dX2_comes_123 : decode cX2_comes 123 = .ok (.aload_n 0, 1) := by decide +kernel
theorem dX2_comes_124 : decode cX2_comes 124 = .ok (.iload_n 1, 1) := by decide +kernel
theorem dX2_comes_125 : decode cX2_comes 125 = .ok (.iconst 3, 1) := by decide +kernel
theorem dX2_comes_126 : decode cX2_comes 126 = .ok (.iadd, 1) := by decide +kernel
theorem dX2_comes_127 : decode cX2_comes 127 = .ok (.invokevirtual 42, 3) := by decide +kernel
theorem dX2_comes_130 : decode cX2_comes 130 = .ok (.aload_n 2, 1) := by decide +kernel
theorem dX2_comes_131 : decode cX2_comes 131 = .ok (.invokestatic 45, 3) := by decide +kernel
theorem dX2_comes_134 : decode cX2_comes 134 = .ok (.ireturn, 1) := by decide +kernel
theorem dX2_comes_135 : decode cX2_comes 135 = .ok (.iload_n 3, 1) := by decide +kernel
theorem dX2_comes_136 : decode cX2_comes 136 = .ok (.aload_n 2, 1) := by decide +kernel
theorem dX2_comes_137 : decode cX2_comes 137 = .ok (.invokestatic 49, 3) := by decide +kernel
theorem dX2_comes_140 : decode cX2_comes 140 = .ok (.ireturn, 1) := by decide +kernel
theorem dX2_comes_141 : decode cX2_comes 141 = .ok (.iload_n 3, 1) := by decide +kernel
theorem dX2_comes_142 : decode cX2_comes 142 = .ok (.iconst 0, 1) := by decide +kernel
theorem dX2_comes_143 : decode cX2_comes 143 = .ok (.aload_n 2, 1) := by decide +kernel
theorem dX2_comes_144 : decode cX2_comes 144 = .ok (.invokestatic 53, 3) := by decide +kernel
theorem dX2_comes_147 : decode cX2_comes 147 = .ok (.ireturn, 1) := by decide +kernel
theorem dX2_comes_148 : decode cX2_comes 148 = .ok (.iload_n 3, 1) := by decide +kernel
theorem dX2_comes_149 : decode cX2_comes 149 = .ok (.iload 4, 2) := by decide +kernel
theorem dX2_comes_151 : decode cX2_comes 151 = .ok (.aload_n 2, 1) := by decide +kernel
theorem dX2_comes_152 : decode cX2_comes 152 = .ok (.invokestatic 53, 3) := by decide +kernel
theorem dX2_comes_155 : decode cX2_comes 155 = .ok (.ireturn, 1) := by decide +kernel
theorem dX2_comes_156 : decode cX2_comes 156 = .ok (.aload_n 2, 1) := by decide +kernel
theorem dX2_comes_157 : decode cX2_comes 157 = .ok (.invokestatic 57, 3) := by decide +kernel
theorem dX2_comes_160 : decode cX2_comes 160 = .ok (.ireturn, 1) := by decide +kernel
theorem dX2_comes_161 : decode cX2_comes 161 = .ok (.aload_n 0, 1) := by decide +kernel
theorem dX2_comes_162 : decode cX2_comes 162 = .ok (.iload_n 1, 1) := by decide +kernel
theorem dX2_comes_163 : decode cX2_comes 163 = .ok (.iconst 1, 1) := by decide +kernel
theorem dX2_comes_164 : decode cX2_comes 164 = .ok (.iadd, 1) := by decide +kernel
theorem dX2_comes_165 : decode cX2_comes 165 = .ok (.invokevirtual 42, 3) := by decide +kernel
theorem dX2_comes_168 : decode cX2_comes 168 = .ok (.aload_n 2, 1) := by decide +kernel
theorem dX2_comes_169 : decode cX2_comes 169 = .ok (.invokestatic 61, 3) := by decide +kernel
theorem dX2_comes_172 : decode cX2_comes 172 = .ok (.ireturn, 1) := by decide +kernel
theorem dX2_comes_173 : decode cX2_comes 173 = .ok (.iconst 0, 1) := by decide +kernel
theorem dX2_comes_174 : decode cX2_comes 174 = .ok (.ireturn, 1) := by decide +kernel
abbrev A2_comes (G : GG) (Q : Int32 → MM → Prop) := AW G E0 (MZ G (qI Q)) (WY yX2_comes cX2_comes 5 (some .boolean)) RX2 cX2_comes 5 (some .boolean) ({ frames := 5, cells := 0, slots := 0, locals := 115 } : Room) 0 0
def D2_comes (x1 : Int32) (x2 : Nat) (M : MM) (Q : Int32 → MM → Prop) : Prop := D2_digit (x1 + (1 : Int32)) M (fun (r1 : Int32) (M2 : MM) => D2_digit (x1 + (2 : Int32)) M2 (fun (r3 : Int32) (M4 : MM) => D2_signAt x1 M4 (fun (r5 : Int32) (M6 : MM) => ((r5 = 102 → D2_wornBy r1 (0 : Int32) x2 M6 (fun (r7 : Int32) (M8 : MM) => bo r7 ∧ Q r7 M8)) ∧ (¬ r5 = 102 → ((r5 = 104 → D2_twoDigits (x1 + (1 : Int32)) M6 (fun (r9 : Int32) (M10 : MM) => D2_passed r9 x2 M10 (fun (r11 : Int32) (M12 : MM) => bo r11 ∧ Q r11 M12))) ∧ (¬ r5 = 104 → ((r5 = 112 → D2_paid x2 M6 (fun (r13 : Int32) (M14 : MM) => bo r13 ∧ Q r13 M14)) ∧ (¬ r5 = 112 → ((r5 = 114 → D2_lost r1 x2 M6 (fun (r15 : Int32) (M16 : MM) => bo r15 ∧ Q r15 M16)) ∧ (¬ r5 = 114 → ((r5 = 119 → D2_twoDigits (x1 + (3 : Int32)) M6 (fun (r17 : Int32) (M18 : MM) => D2_built r1 r3 r17 x2 M18 (fun (r19 : Int32) (M20 : MM) => bo r19 ∧ Q r19 M20))) ∧ (¬ r5 = 119 → ((r5 = 120 → D2_wornBy r1 r3 x2 M6 (fun (r21 : Int32) (M22 : MM) => bo r21 ∧ Q r21 M22)) ∧ (¬ r5 = 120 → Q (0 : Int32) M6)))))))))))))))
set_option maxHeartbeats 4000000 in
set_option maxRecDepth 100000 in
theorem s2_comes {G : GG} {x1 : Int32} {x2 : Nat} {M : MM} {Q : Int32 → MM → Prop} (hx2 : ob x2 0) (h : D2_comes x1 x2 M Q) : CM G yX2_comes (WY yX2_comes cX2_comes 5 (some .boolean)) 5 115 [.ref (gA G 57), .int x1, .ref (gA G x2)] M (qI Q) := by
  refine CM.of (cc := cX2_comes) (nL := 5) (ret := (some .boolean)) (own := RX2) (by decide +kernel) rfl rfl (Nat.le_of_ble_eq_true rfl) ?_
  show A2_comes G Q 0 [(0, .ref (gA G 57)), (1, .int x1), (2, .ref (gA G x2))] [] M
  unfold D2_comes at h
  refine a_aload_n dX2_comes_0 2 rfl ?_
  refine a_ifnonnull (tgt := 6) dX2_comes_1 (by decide) ?_
  refine a_aload_n dX2_comes_6 0 rfl ?_
  refine a_iload_n dX2_comes_7 1 rfl ?_
  refine a_iconst (v := 1) dX2_comes_8 (by decide) ?_
  refine a_iadd dX2_comes_9 ?_
  refine a_callVi (n := 1) [.int _] (C := RX2) (ci := 1) (qc := (RX2, TX2, 2)) (fsF := fl1 G _) ob_57.1 (fun _ => en1 ob_57.2) rfl rfl dX2_comes_10 (s2_digit h) (gV tbc kM_RX2_27_X2_digit kI_X2_digit kS_X2_digit kN_RX2 kC_X2_digit) rfl (by decide +kernel) ⟨Nat.le_of_ble_eq_true rfl, Nat.le_of_ble_eq_true rfl⟩ rfl rfl (Nat.le_of_ble_eq_true rfl) ⟨Nat.le_refl 0, Nat.le_refl 0⟩ (fun r M h => ?_)
  refine a_istore_n (i := 3) (L' := [(3, .int _), (0, .ref _), (1, .int _), (2, .ref _)]) dX2_comes_13 rfl (by decide) rfl ?_
  refine a_aload_n dX2_comes_14 1 rfl ?_
  refine a_iload_n dX2_comes_15 2 rfl ?_
  refine a_iconst (v := 2) dX2_comes_16 (by decide) ?_
  refine a_iadd dX2_comes_17 ?_
  refine a_callVi (n := 1) [.int _] (C := RX2) (ci := 1) (qc := (RX2, TX2, 2)) (fsF := fl1 G _) ob_57.1 (fun _ => en1 ob_57.2) rfl rfl dX2_comes_18 (s2_digit h) (gV tbc kM_RX2_27_X2_digit kI_X2_digit kS_X2_digit kN_RX2 kC_X2_digit) rfl (by decide +kernel) ⟨Nat.le_of_ble_eq_true rfl, Nat.le_of_ble_eq_true rfl⟩ rfl rfl (Nat.le_of_ble_eq_true rfl) ⟨Nat.le_refl 0, Nat.le_refl 0⟩ (fun r M h => ?_)
  refine a_istore (i := 4) (L' := [(4, .int _), (3, .int _), (0, .ref _), (1, .int _), (2, .ref _)]) dX2_comes_21 (by decide) rfl ?_
  refine a_aload_n dX2_comes_23 2 rfl ?_
  refine a_iload_n dX2_comes_24 3 rfl ?_
  refine a_callVi (n := 1) [.int _] (C := RX2) (ci := 1) (qc := (RX2, TX2, 2)) (fsF := fl1 G _) ob_57.1 (fun _ => en1 ob_57.2) rfl rfl dX2_comes_25 (s2_signAt h) (gV tbc kM_RX2_19_X2_signAt kI_X2_signAt kS_X2_signAt kN_RX2 kC_X2_signAt) rfl (by decide +kernel) ⟨Nat.le_of_ble_eq_true rfl, Nat.le_of_ble_eq_true rfl⟩ rfl rfl (Nat.le_of_ble_eq_true rfl) ⟨Nat.le_refl 0, Nat.le_refl 0⟩ (fun r M h => ?_)
  refine em_c h (fun c102 h => ?_) (fun c102 h => ?_)
  · refine a_tableIn (off := 113) (tgt := 141) dX2_comes_28 (by rw [c102]; decide) (by rw [c102]; decide) (by rw [c102]; rfl) (by decide) ?_
    refine a_iload_n dX2_comes_141 1 rfl ?_
    refine a_iconst (v := 0) dX2_comes_142 (by decide) ?_
    refine a_aload_n dX2_comes_143 4 rfl ?_
    refine a_callSi (n := 3) [.int _, .int _, .ref _] dX2_comes_144 (s2_wornBy hx2 h) (gS tbc kM_RX2_53_X2_wornBy kT_X2_wornBy kN_RX2 kC_X2_wornBy) rfl (by decide +kernel) ⟨Nat.le_of_ble_eq_true rfl, Nat.le_of_ble_eq_true rfl⟩ rfl rfl (Nat.le_of_ble_eq_true rfl) ⟨Nat.le_refl 0, Nat.le_refl 0⟩ (fun r M h => ?_)
    exact a_zret dX2_comes_147 h.1 ⟨_, rfl, h.2⟩
  · refine em_c h (fun c104 h => ?_) (fun c104 h => ?_)
    · refine a_tableIn (off := 133) (tgt := 161) dX2_comes_28 (by rw [c104]; decide) (by rw [c104]; decide) (by rw [c104]; rfl) (by decide) ?_
      refine a_aload_n dX2_comes_161 2 rfl ?_
      refine a_iload_n dX2_comes_162 3 rfl ?_
      refine a_iconst (v := 1) dX2_comes_163 (by decide) ?_
      refine a_iadd dX2_comes_164 ?_
      refine a_callVi (n := 1) [.int _] (C := RX2) (ci := 1) (qc := (RX2, TX2, 2)) (fsF := fl1 G _) ob_57.1 (fun _ => en1 ob_57.2) rfl rfl dX2_comes_165 (s2_twoDigits h) (gV tbc kM_RX2_42_X2_twoDigits kI_X2_twoDigits kS_X2_twoDigits kN_RX2 kC_X2_twoDigits) rfl (by decide +kernel) ⟨Nat.le_of_ble_eq_true rfl, Nat.le_of_ble_eq_true rfl⟩ rfl rfl (Nat.le_of_ble_eq_true rfl) ⟨Nat.le_refl 0, Nat.le_refl 0⟩ (fun r M h => ?_)
      refine a_aload_n dX2_comes_168 4 rfl ?_
      refine a_callSi (n := 2) [.int _, .ref _] dX2_comes_169 (s2_passed hx2 h) (gS tbc kM_RX2_61_X2_passed kT_X2_passed kN_RX2 kC_X2_passed) rfl (by decide +kernel) ⟨Nat.le_of_ble_eq_true rfl, Nat.le_of_ble_eq_true rfl⟩ rfl rfl (Nat.le_of_ble_eq_true rfl) ⟨Nat.le_refl 0, Nat.le_refl 0⟩ (fun r M h => ?_)
      exact a_zret dX2_comes_172 h.1 ⟨_, rfl, h.2⟩
    · refine em_c h (fun c112 h => ?_) (fun c112 h => ?_)
      · refine a_tableIn (off := 128) (tgt := 156) dX2_comes_28 (by rw [c112]; decide) (by rw [c112]; decide) (by rw [c112]; rfl) (by decide) ?_
        refine a_aload_n dX2_comes_156 4 rfl ?_
        refine a_callSi (n := 1) [.ref _] dX2_comes_157 (s2_paid hx2 h) (gS tbc kM_RX2_57_X2_paid kT_X2_paid kN_RX2 kC_X2_paid) rfl (by decide +kernel) ⟨Nat.le_of_ble_eq_true rfl, Nat.le_of_ble_eq_true rfl⟩ rfl rfl (Nat.le_of_ble_eq_true rfl) ⟨Nat.le_refl 0, Nat.le_refl 0⟩ (fun r M h => ?_)
        exact a_zret dX2_comes_160 h.1 ⟨_, rfl, h.2⟩
      · refine em_c h (fun c114 h => ?_) (fun c114 h => ?_)
        · refine a_tableIn (off := 107) (tgt := 135) dX2_comes_28 (by rw [c114]; decide) (by rw [c114]; decide) (by rw [c114]; rfl) (by decide) ?_
          refine a_iload_n dX2_comes_135 1 rfl ?_
          refine a_aload_n dX2_comes_136 4 rfl ?_
          refine a_callSi (n := 2) [.int _, .ref _] dX2_comes_137 (s2_lost hx2 h) (gS tbc kM_RX2_49_X2_lost kT_X2_lost kN_RX2 kC_X2_lost) rfl (by decide +kernel) ⟨Nat.le_of_ble_eq_true rfl, Nat.le_of_ble_eq_true rfl⟩ rfl rfl (Nat.le_of_ble_eq_true rfl) ⟨Nat.le_refl 0, Nat.le_refl 0⟩ (fun r M h => ?_)
          exact a_zret dX2_comes_140 h.1 ⟨_, rfl, h.2⟩
        · refine em_c h (fun c119 h => ?_) (fun c119 h => ?_)
          · refine a_tableIn (off := 92) (tgt := 120) dX2_comes_28 (by rw [c119]; decide) (by rw [c119]; decide) (by rw [c119]; rfl) (by decide) ?_
            refine a_iload_n dX2_comes_120 1 rfl ?_
            refine a_iload dX2_comes_121 0 rfl ?_
            refine a_aload_n dX2_comes_123 2 rfl ?_
            refine a_iload_n dX2_comes_124 3 rfl ?_
            refine a_iconst (v := 3) dX2_comes_125 (by decide) ?_
            refine a_iadd dX2_comes_126 ?_
            refine a_callVi (n := 1) [.int _] (C := RX2) (ci := 1) (qc := (RX2, TX2, 2)) (fsF := fl1 G _) ob_57.1 (fun _ => en1 ob_57.2) rfl rfl dX2_comes_127 (s2_twoDigits h) (gV tbc kM_RX2_42_X2_twoDigits kI_X2_twoDigits kS_X2_twoDigits kN_RX2 kC_X2_twoDigits) rfl (by decide +kernel) ⟨Nat.le_of_ble_eq_true rfl, Nat.le_of_ble_eq_true rfl⟩ rfl rfl (Nat.le_of_ble_eq_true rfl) ⟨Nat.le_refl 0, Nat.le_refl 0⟩ (fun r M h => ?_)
            refine a_aload_n dX2_comes_130 4 rfl ?_
            refine a_callSi (n := 4) [.int _, .int _, .int _, .ref _] dX2_comes_131 (s2_built hx2 h) (gS tbc kM_RX2_45_X2_built kT_X2_built kN_RX2 kC_X2_built) rfl (by decide +kernel) ⟨Nat.le_of_ble_eq_true rfl, Nat.le_of_ble_eq_true rfl⟩ rfl rfl (Nat.le_of_ble_eq_true rfl) ⟨Nat.le_refl 0, Nat.le_refl 0⟩ (fun r M h => ?_)
            exact a_zret dX2_comes_134 h.1 ⟨_, rfl, h.2⟩
          · refine em_c h (fun c120 h => ?_) (fun c120 h => ?_)
            · refine a_tableIn (off := 120) (tgt := 148) dX2_comes_28 (by rw [c120]; decide) (by rw [c120]; decide) (by rw [c120]; rfl) (by decide) ?_
              refine a_iload_n dX2_comes_148 1 rfl ?_
              refine a_iload dX2_comes_149 0 rfl ?_
              refine a_aload_n dX2_comes_151 4 rfl ?_
              refine a_callSi (n := 3) [.int _, .int _, .ref _] dX2_comes_152 (s2_wornBy hx2 h) (gS tbc kM_RX2_53_X2_wornBy kT_X2_wornBy kN_RX2 kC_X2_wornBy) rfl (by decide +kernel) ⟨Nat.le_of_ble_eq_true rfl, Nat.le_of_ble_eq_true rfl⟩ rfl rfl (Nat.le_of_ble_eq_true rfl) ⟨Nat.le_refl 0, Nat.le_refl 0⟩ (fun r M h => ?_)
              exact a_zret dX2_comes_155 h.1 ⟨_, rfl, h.2⟩
            · refine a_tableD (tgt := 173) dX2_comes_28 (by decide) (fun k h1 h2 e => by have hk : k = 102 ∨ k = 103 ∨ k = 104 ∨ k = 105 ∨ k = 106 ∨ k = 107 ∨ k = 108 ∨ k = 109 ∨ k = 110 ∨ k = 111 ∨ k = 112 ∨ k = 113 ∨ k = 114 ∨ k = 115 ∨ k = 116 ∨ k = 117 ∨ k = 118 ∨ k = 119 ∨ k = 120 := (by omega); rcases hk with rfl | rfl | rfl | rfl | rfl | rfl | rfl | rfl | rfl | rfl | rfl | rfl | rfl | rfl | rfl | rfl | rfl | rfl | rfl <;> first | rfl | exact absurd e (ne_ti c102 (by decide)) | exact absurd e (ne_ti c104 (by decide)) | exact absurd e (ne_ti c112 (by decide)) | exact absurd e (ne_ti c114 (by decide)) | exact absurd e (ne_ti c119 (by decide)) | exact absurd e (ne_ti c120 (by decide))) ?_
              refine a_iconst (v := 0) dX2_comes_173 (by decide) ?_
              exact a_zret dX2_comes_174 (Or.inl rfl) ⟨_, rfl, h⟩

/-! X2_digitsBehind -/
theorem dX2_digitsBehind_0 : decode cX2_digitsBehind 0 = .ok (.iload_n 0, 1) := by decide +kernel
theorem dX2_digitsBehind_1 : decode cX2_digitsBehind 1 = .ok (.tableswitch 103 102 120 #[95, 103, 101, 103, 103, 103, 103, 103, 103, 103, 99, 103, 93, 103, 103, 103, 103, 91, 97], 91) := by decide +kernel
theorem dX2_digitsBehind_92 : decode cX2_digitsBehind 92 = .ok (.iconst 4, 1) := by decide +kernel
theorem dX2_digitsBehind_93 : decode cX2_digitsBehind 93 = .ok (.ireturn, 1) := by decide +kernel
theorem dX2_digitsBehind_94 : decode cX2_digitsBehind 94 = .ok (.iconst 1, 1) := by decide +kernel
theorem dX2_digitsBehind_95 : decode cX2_digitsBehind 95 = .ok (.ireturn, 1) := by decide +kernel
theorem dX2_digitsBehind_96 : decode cX2_digitsBehind 96 = .ok (.iconst 1, 1) := by decide +kernel
theorem dX2_digitsBehind_97 : decode cX2_digitsBehind 97 = .ok (.ireturn, 1) := by decide +kernel
theorem dX2_digitsBehind_98 : decode cX2_digitsBehind 98 = .ok (.iconst 2, 1) := by decide +kernel
theorem dX2_digitsBehind_99 : decode cX2_digitsBehind 99 = .ok (.ireturn, 1) := by decide +kernel
theorem dX2_digitsBehind_100 : decode cX2_digitsBehind 100 = .ok (.iconst 0, 1) := by decide +kernel
theorem dX2_digitsBehind_101 : decode cX2_digitsBehind 101 = .ok (.ireturn, 1) := by decide +kernel
theorem dX2_digitsBehind_102 : decode cX2_digitsBehind 102 = .ok (.iconst 2, 1) := by decide +kernel
theorem dX2_digitsBehind_103 : decode cX2_digitsBehind 103 = .ok (.ireturn, 1) := by decide +kernel
theorem dX2_digitsBehind_104 : decode cX2_digitsBehind 104 = .ok (.bipush (-9), 2) := by decide +kernel
theorem dX2_digitsBehind_106 : decode cX2_digitsBehind 106 = .ok (.ireturn, 1) := by decide +kernel
abbrev A2_digitsBehind (G : GG) (Q : Int32 → MM → Prop) := AW G E0 (MZ G (qI Q)) (WY yX2_digitsBehind cX2_digitsBehind 1 (some .int)) RX2 cX2_digitsBehind 1 (some .int) ({ frames := 0, cells := 0, slots := 0, locals := 0 } : Room) 0 0
def D2_digitsBehind (x0 : Int32) (M : MM) (Q : Int32 → MM → Prop) : Prop := ((x0 = 102 → Q (1 : Int32) M) ∧ (¬ x0 = 102 → ((x0 = 104 → Q (2 : Int32) M) ∧ (¬ x0 = 104 → ((x0 = 112 → Q (0 : Int32) M) ∧ (¬ x0 = 112 → ((x0 = 114 → Q (1 : Int32) M) ∧ (¬ x0 = 114 → ((x0 = 119 → Q (4 : Int32) M) ∧ (¬ x0 = 119 → ((x0 = 120 → Q (2 : Int32) M) ∧ (¬ x0 = 120 → Q (-9 : Int32) M))))))))))))
set_option maxHeartbeats 4000000 in
set_option maxRecDepth 100000 in
theorem s2_digitsBehind {G : GG} {x0 : Int32} {M : MM} {Q : Int32 → MM → Prop} (h : D2_digitsBehind x0 M Q) : CM G yX2_digitsBehind (WY yX2_digitsBehind cX2_digitsBehind 1 (some .int)) 0 0 [.int x0] M (qI Q) := by
  refine CM.of (cc := cX2_digitsBehind) (nL := 1) (ret := (some .int)) (own := RX2) (by decide +kernel) rfl rfl (Nat.le_of_ble_eq_true rfl) ?_
  show A2_digitsBehind G Q 0 [(0, .int x0)] [] M
  unfold D2_digitsBehind at h
  refine a_iload_n dX2_digitsBehind_0 0 rfl ?_
  refine em_c h (fun c102 h => ?_) (fun c102 h => ?_)
  · refine a_tableIn (off := 95) (tgt := 96) dX2_digitsBehind_1 (by rw [c102]; decide) (by rw [c102]; decide) (by rw [c102]; rfl) (by decide) ?_
    refine a_iconst (v := 1) dX2_digitsBehind_96 (by decide) ?_
    exact a_iret dX2_digitsBehind_97 ⟨_, rfl, h⟩
  · refine em_c h (fun c104 h => ?_) (fun c104 h => ?_)
    · refine a_tableIn (off := 101) (tgt := 102) dX2_digitsBehind_1 (by rw [c104]; decide) (by rw [c104]; decide) (by rw [c104]; rfl) (by decide) ?_
      refine a_iconst (v := 2) dX2_digitsBehind_102 (by decide) ?_
      exact a_iret dX2_digitsBehind_103 ⟨_, rfl, h⟩
    · refine em_c h (fun c112 h => ?_) (fun c112 h => ?_)
      · refine a_tableIn (off := 99) (tgt := 100) dX2_digitsBehind_1 (by rw [c112]; decide) (by rw [c112]; decide) (by rw [c112]; rfl) (by decide) ?_
        refine a_iconst (v := 0) dX2_digitsBehind_100 (by decide) ?_
        exact a_iret dX2_digitsBehind_101 ⟨_, rfl, h⟩
      · refine em_c h (fun c114 h => ?_) (fun c114 h => ?_)
        · refine a_tableIn (off := 93) (tgt := 94) dX2_digitsBehind_1 (by rw [c114]; decide) (by rw [c114]; decide) (by rw [c114]; rfl) (by decide) ?_
          refine a_iconst (v := 1) dX2_digitsBehind_94 (by decide) ?_
          exact a_iret dX2_digitsBehind_95 ⟨_, rfl, h⟩
        · refine em_c h (fun c119 h => ?_) (fun c119 h => ?_)
          · refine a_tableIn (off := 91) (tgt := 92) dX2_digitsBehind_1 (by rw [c119]; decide) (by rw [c119]; decide) (by rw [c119]; rfl) (by decide) ?_
            refine a_iconst (v := 4) dX2_digitsBehind_92 (by decide) ?_
            exact a_iret dX2_digitsBehind_93 ⟨_, rfl, h⟩
          · refine em_c h (fun c120 h => ?_) (fun c120 h => ?_)
            · refine a_tableIn (off := 97) (tgt := 98) dX2_digitsBehind_1 (by rw [c120]; decide) (by rw [c120]; decide) (by rw [c120]; rfl) (by decide) ?_
              refine a_iconst (v := 2) dX2_digitsBehind_98 (by decide) ?_
              exact a_iret dX2_digitsBehind_99 ⟨_, rfl, h⟩
            · refine a_tableD (tgt := 104) dX2_digitsBehind_1 (by decide) (fun k h1 h2 e => by have hk : k = 102 ∨ k = 103 ∨ k = 104 ∨ k = 105 ∨ k = 106 ∨ k = 107 ∨ k = 108 ∨ k = 109 ∨ k = 110 ∨ k = 111 ∨ k = 112 ∨ k = 113 ∨ k = 114 ∨ k = 115 ∨ k = 116 ∨ k = 117 ∨ k = 118 ∨ k = 119 ∨ k = 120 := (by omega); rcases hk with rfl | rfl | rfl | rfl | rfl | rfl | rfl | rfl | rfl | rfl | rfl | rfl | rfl | rfl | rfl | rfl | rfl | rfl | rfl <;> first | rfl | exact absurd e (ne_ti c102 (by decide)) | exact absurd e (ne_ti c104 (by decide)) | exact absurd e (ne_ti c112 (by decide)) | exact absurd e (ne_ti c114 (by decide)) | exact absurd e (ne_ti c119 (by decide)) | exact absurd e (ne_ti c120 (by decide))) ?_
              refine a_bipush (v := -9) dX2_digitsBehind_104 (by decide) ?_
              exact a_iret dX2_digitsBehind_106 ⟨_, rfl, h⟩

/-! X2_forget -/
theorem dX2_forget_0 : decode cX2_forget 0 = .ok (.aload_n 0, 1) := by decide +kernel
theorem dX2_forget_1 : decode cX2_forget 1 = .ok (.iconst 0, 1) := by decide +kernel
theorem dX2_forget_2 : decode cX2_forget 2 = .ok (.putfield 15, 3) := by decide +kernel
theorem dX2_forget_5 : decode cX2_forget 5 = .ok (.return_, 1) := by decide +kernel
abbrev A2_forget (G : GG) (Q : MM → Prop) := AW G E0 (MZ G (qV Q)) (WY yX2_forget cX2_forget 1 none) RX2 cX2_forget 1 none ({ frames := 0, cells := 0, slots := 0, locals := 0 } : Room) 0 0
def D2_forget (M : MM) (Q : MM → Prop) : Prop := (fun M1 : MM => Q M1) (up M 57 1 (0 : Int32))
set_option maxHeartbeats 4000000 in
set_option maxRecDepth 100000 in
theorem s2_forget {G : GG} {M : MM} {Q : MM → Prop} (h : D2_forget M Q) : CM G yX2_forget (WY yX2_forget cX2_forget 1 none) 0 0 [.ref (gA G 57)] M (qV Q) := by
  refine CM.of (cc := cX2_forget) (nL := 1) (ret := none) (own := RX2) (by decide +kernel) rfl rfl (Nat.le_of_ble_eq_true rfl) ?_
  show A2_forget G Q 0 [(0, .ref (gA G 57))] [] M
  unfold D2_forget at h
  refine a_aload_n dX2_forget_0 0 rfl ?_
  refine a_iconst (v := 0) dX2_forget_1 (by decide) ?_
  refine a_put1 dX2_forget_2 1 (by decide) (tbc _ kF_RX2_15) (fun w h => tbc _ (uW1 w h)) rfl rfl rfl rfl ob_57 fs1_1 ?_
  exact a_vret dX2_forget_5 ⟨rfl, h⟩

/-! X2_isFull -/
theorem dX2_isFull_0 : decode cX2_isFull 0 = .ok (.aload_n 0, 1) := by decide +kernel
theorem dX2_isFull_1 : decode cX2_isFull 1 = .ok (.getfield 15, 3) := by decide +kernel
theorem dX2_isFull_4 : decode cX2_isFull 4 = .ok (.bipush 96, 2) := by decide +kernel
theorem dX2_isFull_6 : decode cX2_isFull 6 = .ok (.if_icmp .lt 7, 3) := by decide +kernel
theorem dX2_isFull_9 : decode cX2_isFull 9 = .ok (.iconst 1, 1) := by decide +kernel
theorem dX2_isFull_10 : decode cX2_isFull 10 = .ok (.goto 4, 3) := by decide +kernel
theorem dX2_isFull_13 : decode cX2_isFull 13 = .ok (.iconst 0, 1) := by decide +kernel
theorem dX2_isFull_14 : decode cX2_isFull 14 = .ok (.ireturn, 1) := by decide +kernel
abbrev A2_isFull (G : GG) (Q : Int32 → MM → Prop) := AW G E0 (MZ G (qI Q)) (WY yX2_isFull cX2_isFull 1 (some .boolean)) RX2 cX2_isFull 1 (some .boolean) ({ frames := 0, cells := 0, slots := 0, locals := 0 } : Room) 0 0
def D2_isFull (M : MM) (Q : Int32 → MM → Prop) : Prop := (((M 57 1) < (96 : Int32) → Q (0 : Int32) M) ∧ (¬ (M 57 1) < (96 : Int32) → Q (1 : Int32) M))
set_option maxHeartbeats 4000000 in
set_option maxRecDepth 100000 in
theorem s2_isFull {G : GG} {M : MM} {Q : Int32 → MM → Prop} (h : D2_isFull M Q) : CM G yX2_isFull (WY yX2_isFull cX2_isFull 1 (some .boolean)) 0 0 [.ref (gA G 57)] M (qI Q) := by
  refine CM.of (cc := cX2_isFull) (nL := 1) (ret := (some .boolean)) (own := RX2) (by decide +kernel) rfl rfl (Nat.le_of_ble_eq_true rfl) ?_
  show A2_isFull G Q 0 [(0, .ref (gA G 57))] [] M
  unfold D2_isFull at h
  refine a_aload_n dX2_isFull_0 0 rfl ?_
  refine a_get1 dX2_isFull_1 1 (by decide) (tbc _ kF_RX2_15) (fun w h => tbc _ (uW1 w h)) rfl ob_57 rfl ?_
  refine a_bipush (v := 96) dX2_isFull_4 (by decide) ?_
  refine a_icmp_lt (tgt := 13) dX2_isFull_6 (by decide) (fun c => ?_) (fun c => ?_)
  · have h := h.1 c
    refine a_iconst (v := 0) dX2_isFull_13 (by decide) ?_
    exact a_zret dX2_isFull_14 (Or.inl rfl) ⟨_, rfl, h⟩
  · have h := h.2 c
    refine a_iconst (v := 1) dX2_isFull_9 (by decide) ?_
    refine a_goto (tgt := 14) dX2_isFull_10 (by decide) ?_
    exact a_zret dX2_isFull_14 (Or.inr rfl) ⟨_, rfl, h⟩

/-! X2_lengthAt -/
theorem dX2_lengthAt_0 : decode cX2_lengthAt 0 = .ok (.iconst 0, 1) := by decide +kernel
theorem dX2_lengthAt_1 : decode cX2_lengthAt 1 = .ok (.aload_n 0, 1) := by decide +kernel
theorem dX2_lengthAt_2 : decode cX2_lengthAt 2 = .ok (.iload_n 1, 1) := by decide +kernel
theorem dX2_lengthAt_3 : decode cX2_lengthAt 3 = .ok (.invokevirtual 19, 3) := by decide +kernel
theorem dX2_lengthAt_6 : decode cX2_lengthAt 6 = .ok (.invokestatic 30, 3) := by decide +kernel
theorem dX2_lengthAt_9 : decode cX2_lengthAt 9 = .ok (.invokestatic 33, 3) := by decide +kernel
theorem dX2_lengthAt_12 : decode cX2_lengthAt 12 = .ok (.iconst 2, 1) := by decide +kernel
theorem dX2_lengthAt_13 : decode cX2_lengthAt 13 = .ok (.iadd, 1) := by decide +kernel
theorem dX2_lengthAt_14 : decode cX2_lengthAt 14 = .ok (.ireturn, 1) := by decide +kernel
abbrev A2_lengthAt (G : GG) (Q : Int32 → MM → Prop) := AW G E0 (MZ G (qI Q)) (WY yX2_lengthAt cX2_lengthAt 2 (some .int)) RX2 cX2_lengthAt 2 (some .int) ({ frames := 1, cells := 0, slots := 0, locals := 21 } : Room) 0 0
def D2_lengthAt (x1 : Int32) (M : MM) (Q : Int32 → MM → Prop) : Prop := D2_signAt x1 M (fun (r1 : Int32) (M2 : MM) => D2_digitsBehind r1 M2 (fun (r3 : Int32) (M4 : MM) => Q ((if (0 : Int32) < r3 then r3 else (0 : Int32)) + (2 : Int32)) M4))
set_option maxHeartbeats 4000000 in
set_option maxRecDepth 100000 in
theorem s2_lengthAt {G : GG} {x1 : Int32} {M : MM} {Q : Int32 → MM → Prop} (h : D2_lengthAt x1 M Q) : CM G yX2_lengthAt (WY yX2_lengthAt cX2_lengthAt 2 (some .int)) 1 21 [.ref (gA G 57), .int x1] M (qI Q) := by
  refine CM.of (cc := cX2_lengthAt) (nL := 2) (ret := (some .int)) (own := RX2) (by decide +kernel) rfl rfl (Nat.le_of_ble_eq_true rfl) ?_
  show A2_lengthAt G Q 0 [(0, .ref (gA G 57)), (1, .int x1)] [] M
  unfold D2_lengthAt at h
  refine a_iconst (v := 0) dX2_lengthAt_0 (by decide) ?_
  refine a_aload_n dX2_lengthAt_1 0 rfl ?_
  refine a_iload_n dX2_lengthAt_2 1 rfl ?_
  refine a_callVi (n := 1) [.int _] (C := RX2) (ci := 1) (qc := (RX2, TX2, 2)) (fsF := fl1 G _) ob_57.1 (fun _ => en1 ob_57.2) rfl rfl dX2_lengthAt_3 (s2_signAt h) (gV tbc kM_RX2_19_X2_signAt kI_X2_signAt kS_X2_signAt kN_RX2 kC_X2_signAt) rfl (by decide +kernel) ⟨Nat.le_of_ble_eq_true rfl, Nat.le_of_ble_eq_true rfl⟩ rfl rfl (Nat.le_of_ble_eq_true rfl) ⟨Nat.le_refl 0, Nat.le_refl 0⟩ (fun r M h => ?_)
  refine a_callSi (n := 1) [.int _] dX2_lengthAt_6 (s2_digitsBehind h) (gS tbc kM_RX2_30_X2_digitsBehind kT_X2_digitsBehind kN_RX2 kC_X2_digitsBehind) rfl (by decide +kernel) ⟨Nat.le_of_ble_eq_true rfl, Nat.le_of_ble_eq_true rfl⟩ rfl rfl (Nat.le_of_ble_eq_true rfl) ⟨Nat.le_refl 0, Nat.le_refl 0⟩ (fun r M h => ?_)
  refine a_mmax dX2_lengthAt_9 (tbc _ kM_RX2_33_Lib_Math_max_name) (tbc _ kT_Lib_Math_max_name) (tbc _ kN_Math) (tbc _ kC_Lib_Math_max_name) (Nat.le_of_ble_eq_true rfl) (Nat.le_of_ble_eq_true rfl) (Nat.le_refl 0) (Nat.le_refl 0) ?_
  refine a_iconst (v := 2) dX2_lengthAt_12 (by decide) ?_
  refine a_iadd dX2_lengthAt_13 ?_
  exact a_iret dX2_lengthAt_14 ⟨_, rfl, h⟩

/-! X2_lackPlace -/
theorem dX2_lackPlace_0 : decode cX2_lackPlace 0 = .ok (.aload_n 0, 1) := by decide +kernel
theorem dX2_lackPlace_1 : decode cX2_lackPlace 1 = .ok (.getfield 15, 3) := by decide +kernel
theorem dX2_lackPlace_4 : decode cX2_lackPlace 4 = .ok (.ifCond .ne 5, 3) := by decide +kernel
theorem dX2_lackPlace_7 : decode cX2_lackPlace 7 = .ok (.iconst 0, 1) := by decide +kernel
theorem dX2_lackPlace_8 : decode cX2_lackPlace 8 = .ok (.ireturn, 1) := by decide +kernel
theorem dX2_lackPlace_9 : decode cX2_lackPlace 9 = .ok (.iconst 0, 1) := by decide +kernel
theorem dX2_lackPlace_10 : decode cX2_lackPlace 10 = .ok (.istore_n 1, 1) := by decide +kernel
theorem dX2_lackPlace_11 : decode cX2_lackPlace 11 = .ok (.iconst 0, 1) := by decide +kernel
theorem dX2_lackPlace_12 : decode cX2_lackPlace 12 = .ok (.istore_n 2, 1) := by decide +kernel
theorem dX2_lackPlace_13 : decode cX2_lackPlace 13 = .ok (.iload_n 2, 1) := by decide +kernel
theorem dX2_lackPlace_14 : decode cX2_lackPlace 14 = .ok (.bipush 96, 2) := by decide +kernel
theorem dX2_lackPlace_16 : decode cX2_lackPlace 16 = .ok (.if_icmp .ge 91, 3) := by decide +kernel
theorem dX2_lackPlace_19 : decode cX2_lackPlace 19 = .ok (.iload_n 1, 1) := by decide +kernel
theorem dX2_lackPlace_20 : decode cX2_lackPlace 20 = .ok (.aload_n 0, 1) := by decide +kernel
theorem dX2_lackPlace_21 : decode cX2_lackPlace 21 = .ok (.getfield 15, 3) := by decide +kernel
theorem dX2_lackPlace_24 : decode cX2_lackPlace 24 = .ok (.if_icmp .ge 83, 3) := by decide +kernel
theorem dX2_lackPlace_27 : decode cX2_lackPlace 27 = .ok (.aload_n 0, 1) := by decide +kernel
theorem dX2_lackPlace_28 : decode cX2_lackPlace 28 = .ok (.iload_n 1, 1) := by decide +kernel
theorem dX2_lackPlace_29 : decode cX2_lackPlace 29 = .ok (.invokevirtual 19, 3) := by decide +kernel
theorem dX2_lackPlace_32 : decode cX2_lackPlace 32 = .ok (.invokestatic 30, 3) := by decide +kernel
theorem dX2_lackPlace_35 : decode cX2_lackPlace 35 = .ok (.istore_n 3, 1) := by decide +kernel
theorem dX2_lackPlace_36 : decode cX2_lackPlace 36 = .ok (.iload_n 3, 1) := by decide +kernel
theorem dX2_lackPlace_37 : decode cX2_lackPlace 37 = .ok (.ifCond .ge 5, 3) := by decide +kernel
theorem dX2_lackPlace_40 : decode cX2_lackPlace 40 = .ok (.iload_n 1, 1) := by decide +kernel
theorem dX2_lackPlace_41 : decode cX2_lackPlace 41 = .ok (.ireturn, 1) := by decide +kernel
theorem dX2_lackPlace_42 : decode cX2_lackPlace 42 = .ok (.iconst 1, 1) := by decide +kernel
theorem dX2_lackPlace_43 : decode cX2_lackPlace 43 = .ok (.istore 4, 2) := by decide +kernel
theorem dX2_lackPlace_45 : decode cX2_lackPlace 45 = .ok (.iload 4, 2) := by decide +kernel
theorem dX2_lackPlace_47 : decode cX2_lackPlace 47 = .ok (.iload_n 3, 1) := by decide +kernel
theorem dX2_lackPlace_48 : decode cX2_lackPlace 48 = .ok (.if_icmp .gt 25, 3) := by decide +kernel
theorem dX2_lackPlace_51 : decode cX2_lackPlace 51 = .ok (.aload_n 0, 1) := by decide +kernel
theorem dX2_lackPlace_52 : decode cX2_lackPlace 52 = .ok (.iload_n 1, 1) := by decide +kernel
theorem dX2_lackPlace_53 : decode cX2_lackPlace 53 = .ok (.iload 4, 2) := by decide +kernel
theorem dX2_lackPlace_55 : decode cX2_lackPlace 55 = .ok (.iadd, 1) := by decide +kernel
theorem dX2_lackPlace_56 : decode cX2_lackPlace 56 = .ok (.invokevirtual 23, 3) := by decide +kernel
theorem dX2_lackPlace_59 : decode cX2_lackPlace 59 = .ok (.ifCond .ne 8, 3) := by decide +kernel
theorem dX2_lackPlace_62 : decode cX2_lackPlace 62 = .ok (.iload_n 1, 1) := by decide +kernel
theorem dX2_lackPlace_63 : decode cX2_lackPlace 63 = .ok (.iload 4, 2) := by decide +kernel
theorem dX2_lackPlace_65 : decode cX2_lackPlace 65 = .ok (.iadd, 1) := by decide +kernel
theorem dX2_lackPlace_66 : decode cX2_lackPlace 66 = .ok (.ireturn, 1) := by decide +kernel
theorem dX2_lackPlace_67 : decode cX2_lackPlace 67 = .ok (.iinc 4 1, 3) := by decide +kernel
theorem dX2_lackPlace_70 : decode cX2_lackPlace 70 = .ok (.goto (-25), 3) := by decide +kernel
theorem dX2_lackPlace_73 : decode cX2_lackPlace 73 = .ok (.aload_n 0, 1) := by decide +kernel
theorem dX2_lackPlace_74 : decode cX2_lackPlace 74 = .ok (.iload_n 1, 1) := by decide +kernel
theorem dX2_lackPlace_75 : decode cX2_lackPlace 75 = .ok (.iload_n 3, 1) := by decide +kernel
theorem dX2_lackPlace_76 : decode cX2_lackPlace 76 = .ok (.iadd, 1) := by decide +kernel
theorem dX2_lackPlace_77 : decode cX2_lackPlace 77 = .ok (.iconst 1, 1) := by decide +kernel
theorem dX2_lackPlace_78 : decode cX2_lackPlace 78 = .ok (.iadd, 1) := by decide +kernel
theorem dX2_lackPlace_79 : decode cX2_lackPlace 79 = .ok (.invokevirtual 19, 3) := by decide +kernel
theorem dX2_lackPlace_82 : decode cX2_lackPlace 82 = .ok (.bipush 59, 2) := by decide +kernel
theorem dX2_lackPlace_84 : decode cX2_lackPlace 84 = .ok (.if_icmp .eq 9, 3) := by decide +kernel
theorem dX2_lackPlace_87 : decode cX2_lackPlace 87 = .ok (.iload_n 1, 1) := by decide +kernel
theorem dX2_lackPlace_88 : decode cX2_lackPlace 88 = .ok (.iload_n 3, 1) := by decide +kernel
theorem dX2_lackPlace_89 : decode cX2_lackPlace 89 = .ok (.iadd, 1) := by decide +kernel
theorem dX2_lackPlace_90 : decode cX2_lackPlace 90 = .ok (.iconst 1, 1) := by decide +kernel
theorem dX2_lackPlace_91 : decode cX2_lackPlace 91 = .ok (.iadd, 1) := by decide +kernel
theorem dX2_lackPlace_92 : decode cX2_lackPlace 92 = .ok (.ireturn, 1) := by decide +kernel
theorem dX2_lackPlace_93 : decode cX2_lackPlace 93 = .ok (.iload_n 1, 1) := by decide +kernel
theorem dX2_lackPlace_94 : decode cX2_lackPlace 94 = .ok (.aload_n 0, 1) := by decide +kernel
theorem dX2_lackPlace_95 : decode cX2_lackPlace 95 = .ok (.iload_n 1, 1) := by decide +kernel
theorem dX2_lackPlace_96 : decode cX2_lackPlace 96 = .ok (.invokevirtual 39, 3) := by decide +kernel
theorem dX2_lackPlace_99 : decode cX2_lackPlace 99 = .ok (.iadd, 1) := by decide +kernel
theorem dX2_lackPlace_100 : decode cX2_lackPlace 100 = .ok (.istore_n 1, 1) := by decide +kernel
theorem dX2_lackPlace_101 : decode cX2_lackPlace 101 = .ok (.iinc 2 1, 3) := by decide +kernel
theorem dX2_lackPlace_104 : decode cX2_lackPlace 104 = .ok (.goto (-91), 3) := by decide +kernel
theorem dX2_lackPlace_107 : decode cX2_lackPlace 107 = .ok (.bipush (-9), 2) := by decide +kernel
theorem dX2_lackPlace_109 : decode cX2_lackPlace 109 = .ok (.ireturn, 1) := by decide +kernel
abbrev A2_lackPlace (G : GG) (Q : Int32 → MM → Prop) := AW G E0 (MZ G (qI Q)) (WY yX2_lackPlace cX2_lackPlace 5 (some .int)) RX2 cX2_lackPlace 5 (some .int) ({ frames := 2, cells := 0, slots := 0, locals := 42 } : Room) 0 0
def D2_lackPlace_c73 (K13 : Int32 → Int32 → MM → Prop) (Q : Int32 → MM → Prop) (x1 : Int32) (x2 : Int32) (x3 : Int32) (M : MM) : Prop := D2_signAt ((x1 + x3) + (1 : Int32)) M (fun (r8 : Int32) (M9 : MM) => ((r8 = (59 : Int32) → D2_lengthAt x1 M9 (fun (r10 : Int32) (M11 : MM) => (fun v12 : Int32 => (fun v13 : Int32 => K13 v12 v13 M11) (x2 + (1 : Int32))) (x1 + r10))) ∧ (¬ r8 = (59 : Int32) → Q ((x1 + x3) + (1 : Int32)) M9)))
def D2_lackPlace_c45 (K13 : Int32 → Int32 → MM → Prop) (Q : Int32 → MM → Prop) : Nat → Int32 → Int32 → Int32 → Int32 → MM → Prop
  | 0, _, _, _, _, _ => False
  | n + 1, x1, x2, x3, x4, M => ((x3 < x4 → D2_lackPlace_c73 K13 Q x1 x2 x3 M) ∧ (¬ x3 < x4 → D2_isDigit (x1 + x4) M (fun (r5 : Int32) (M6 : MM) => ((r5 ≠ 0 → (fun v7 : Int32 => D2_lackPlace_c45 K13 Q n x1 x2 x3 v7 M6) (x4 + (1 : Int32))) ∧ (r5 = 0 → Q (x1 + x4) M6)))))
def D2_lackPlace_c13 (Q : Int32 → MM → Prop) : Nat → Int32 → Int32 → MM → Prop
  | 0, _, _, _ => False
  | n + 1, x1, x2, M => (((96 : Int32) ≤ x2 → Q (-9 : Int32) M) ∧ (¬ (96 : Int32) ≤ x2 → (((M 57 1) ≤ x1 → Q (-9 : Int32) M) ∧ (¬ (M 57 1) ≤ x1 → D2_signAt x1 M (fun (r1 : Int32) (M2 : MM) => D2_digitsBehind r1 M2 (fun (r3 : Int32) (M4 : MM) => ((0 ≤ r3 → D2_lackPlace_c45 (D2_lackPlace_c13 Q n) Q FU x1 x2 r3 (1 : Int32) M4) ∧ (¬ 0 ≤ r3 → Q x1 M4))))))))
def D2_lackPlace (M : MM) (Q : Int32 → MM → Prop) : Prop := (((M 57 1) ≠ 0 → D2_lackPlace_c13 Q FU (0 : Int32) (0 : Int32) M) ∧ ((M 57 1) = 0 → Q (0 : Int32) M))
set_option maxHeartbeats 4000000 in
set_option maxRecDepth 100000 in
theorem s2_lackPlace_c73 {G : GG} {K13 : Int32 → Int32 → MM → Prop} {Q : Int32 → MM → Prop} (hK13 : ∀ (x1 : Int32) (x2 : Int32) (M : MM), K13 x1 x2 M → A2_lackPlace G Q 13 [(0, .ref (gA G 57)), (1, .int x1), (2, .int x2)] [] M) : ∀ (x1 : Int32) (x2 : Int32) (x3 : Int32) (M : MM), D2_lackPlace_c73 K13 Q x1 x2 x3 M → A2_lackPlace G Q 73 [(0, .ref (gA G 57)), (1, .int x1), (2, .int x2), (3, .int x3)] [] M := by
  intro x1 x2 x3 M h
  unfold D2_lackPlace_c73 at h
  refine a_aload_n dX2_lackPlace_73 0 rfl ?_
  refine a_iload_n dX2_lackPlace_74 1 rfl ?_
  refine a_iload_n dX2_lackPlace_75 3 rfl ?_
  refine a_iadd dX2_lackPlace_76 ?_
  refine a_iconst (v := 1) dX2_lackPlace_77 (by decide) ?_
  refine a_iadd dX2_lackPlace_78 ?_
  refine a_callVi (n := 1) [.int _] (C := RX2) (ci := 1) (qc := (RX2, TX2, 2)) (fsF := fl1 G _) ob_57.1 (fun _ => en1 ob_57.2) rfl rfl dX2_lackPlace_79 (s2_signAt h) (gV tbc kM_RX2_19_X2_signAt kI_X2_signAt kS_X2_signAt kN_RX2 kC_X2_signAt) rfl (by decide +kernel) ⟨Nat.le_of_ble_eq_true rfl, Nat.le_of_ble_eq_true rfl⟩ rfl rfl (Nat.le_of_ble_eq_true rfl) ⟨Nat.le_refl 0, Nat.le_refl 0⟩ (fun r M h => ?_)
  refine a_bipush (v := 59) dX2_lackPlace_82 (by decide) ?_
  refine a_icmp_eq (tgt := 93) dX2_lackPlace_84 (by decide) (fun c => ?_) (fun c => ?_)
  · have h := h.1 c
    refine a_iload_n dX2_lackPlace_93 1 rfl ?_
    refine a_aload_n dX2_lackPlace_94 0 rfl ?_
    refine a_iload_n dX2_lackPlace_95 1 rfl ?_
    refine a_callVi (n := 1) [.int _] (C := RX2) (ci := 1) (qc := (RX2, TX2, 2)) (fsF := fl1 G _) ob_57.1 (fun _ => en1 ob_57.2) rfl rfl dX2_lackPlace_96 (s2_lengthAt h) (gV tbc kM_RX2_39_X2_lengthAt kI_X2_lengthAt kS_X2_lengthAt kN_RX2 kC_X2_lengthAt) rfl (by decide +kernel) ⟨Nat.le_of_ble_eq_true rfl, Nat.le_of_ble_eq_true rfl⟩ rfl rfl (Nat.le_of_ble_eq_true rfl) ⟨Nat.le_refl 0, Nat.le_refl 0⟩ (fun r M h => ?_)
    refine a_iadd dX2_lackPlace_99 ?_
    refine a_istore_n (i := 1) (L' := [(1, .int _), (0, .ref _), (2, .int _), (3, .int _)]) dX2_lackPlace_100 rfl (by decide) rfl ?_
    refine a_iinc (L' := [(2, .int _), (1, .int _), (0, .ref _), (3, .int _)]) dX2_lackPlace_101 2 rfl (show _ + Int32.ofInt (1 : Int) = _ + (1 : Int32) from rfl) (by decide) rfl ?_
    refine a_goto (tgt := 13) dX2_lackPlace_104 (by decide) ?_
    refine a_sub [2, 1, 0] rfl ?_
    exact hK13 _ _ _ h
  · have h := h.2 c
    refine a_iload_n dX2_lackPlace_87 1 rfl ?_
    refine a_iload_n dX2_lackPlace_88 3 rfl ?_
    refine a_iadd dX2_lackPlace_89 ?_
    refine a_iconst (v := 1) dX2_lackPlace_90 (by decide) ?_
    refine a_iadd dX2_lackPlace_91 ?_
    exact a_iret dX2_lackPlace_92 ⟨_, rfl, h⟩
set_option maxHeartbeats 4000000 in
set_option maxRecDepth 100000 in
theorem s2_lackPlace_c45 {G : GG} {K13 : Int32 → Int32 → MM → Prop} {Q : Int32 → MM → Prop} (hK13 : ∀ (x1 : Int32) (x2 : Int32) (M : MM), K13 x1 x2 M → A2_lackPlace G Q 13 [(0, .ref (gA G 57)), (1, .int x1), (2, .int x2)] [] M) : ∀ (n : Nat) (x1 : Int32) (x2 : Int32) (x3 : Int32) (x4 : Int32) (M : MM), D2_lackPlace_c45 K13 Q n x1 x2 x3 x4 M → A2_lackPlace G Q 45 [(0, .ref (gA G 57)), (1, .int x1), (2, .int x2), (3, .int x3), (4, .int x4)] [] M := by
  intro n
  induction n with
  | zero => intro x1 x2 x3 x4 M h; exact h.elim
  | succ n ih =>
    intro x1 x2 x3 x4 M h
    unfold D2_lackPlace_c45 at h
    refine a_iload dX2_lackPlace_45 4 rfl ?_
    refine a_iload_n dX2_lackPlace_47 3 rfl ?_
    refine a_icmp_gt (tgt := 73) dX2_lackPlace_48 (by decide) (fun c => ?_) (fun c => ?_)
    · have h := h.1 c
      refine a_sub [0, 1, 2, 3] rfl ?_
      exact s2_lackPlace_c73 hK13 _ _ _ _ h
    · have h := h.2 c
      refine a_aload_n dX2_lackPlace_51 0 rfl ?_
      refine a_iload_n dX2_lackPlace_52 1 rfl ?_
      refine a_iload dX2_lackPlace_53 4 rfl ?_
      refine a_iadd dX2_lackPlace_55 ?_
      refine a_callVi (n := 1) [.int _] (C := RX2) (ci := 1) (qc := (RX2, TX2, 2)) (fsF := fl1 G _) ob_57.1 (fun _ => en1 ob_57.2) rfl rfl dX2_lackPlace_56 (s2_isDigit h) (gV tbc kM_RX2_23_X2_isDigit kI_X2_isDigit kS_X2_isDigit kN_RX2 kC_X2_isDigit) rfl (by decide +kernel) ⟨Nat.le_of_ble_eq_true rfl, Nat.le_of_ble_eq_true rfl⟩ rfl rfl (Nat.le_of_ble_eq_true rfl) ⟨Nat.le_refl 0, Nat.le_refl 0⟩ (fun r M h => ?_)
      refine a_if_ne (tgt := 67) dX2_lackPlace_59 (by decide) (fun c => ?_) (fun c => ?_)
      · have h := h.1 c
        refine a_iinc (L' := [(4, .int _), (0, .ref _), (1, .int _), (2, .int _), (3, .int _)]) dX2_lackPlace_67 4 rfl (show _ + Int32.ofInt (1 : Int) = _ + (1 : Int32) from rfl) (by decide) rfl ?_
        refine a_goto (tgt := 45) dX2_lackPlace_70 (by decide) ?_
        refine a_sub [1, 2, 3, 4, 0] rfl ?_
        exact ih _ _ _ _ _ h
      · have h := h.2 c
        refine a_iload_n dX2_lackPlace_62 1 rfl ?_
        refine a_iload dX2_lackPlace_63 4 rfl ?_
        refine a_iadd dX2_lackPlace_65 ?_
        exact a_iret dX2_lackPlace_66 ⟨_, rfl, h⟩
set_option maxHeartbeats 4000000 in
set_option maxRecDepth 100000 in
theorem s2_lackPlace_c13 {G : GG} {Q : Int32 → MM → Prop} : ∀ (n : Nat) (x1 : Int32) (x2 : Int32) (M : MM), D2_lackPlace_c13 Q n x1 x2 M → A2_lackPlace G Q 13 [(0, .ref (gA G 57)), (1, .int x1), (2, .int x2)] [] M := by
  intro n
  induction n with
  | zero => intro x1 x2 M h; exact h.elim
  | succ n ih =>
    intro x1 x2 M h
    unfold D2_lackPlace_c13 at h
    refine a_iload_n dX2_lackPlace_13 2 rfl ?_
    refine a_bipush (v := 96) dX2_lackPlace_14 (by decide) ?_
    refine a_icmp_ge (tgt := 107) dX2_lackPlace_16 (by decide) (fun c => ?_) (fun c => ?_)
    · have h := h.1 c
      refine a_bipush (v := -9) dX2_lackPlace_107 (by decide) ?_
      exact a_iret dX2_lackPlace_109 ⟨_, rfl, h⟩
    · have h := h.2 c
      refine a_iload_n dX2_lackPlace_19 1 rfl ?_
      refine a_aload_n dX2_lackPlace_20 0 rfl ?_
      refine a_get1 dX2_lackPlace_21 1 (by decide) (tbc _ kF_RX2_15) (fun w h => tbc _ (uW1 w h)) rfl ob_57 rfl ?_
      refine a_icmp_ge (tgt := 107) dX2_lackPlace_24 (by decide) (fun c => ?_) (fun c => ?_)
      · have h := h.1 c
        refine a_bipush (v := -9) dX2_lackPlace_107 (by decide) ?_
        exact a_iret dX2_lackPlace_109 ⟨_, rfl, h⟩
      · have h := h.2 c
        refine a_aload_n dX2_lackPlace_27 0 rfl ?_
        refine a_iload_n dX2_lackPlace_28 1 rfl ?_
        refine a_callVi (n := 1) [.int _] (C := RX2) (ci := 1) (qc := (RX2, TX2, 2)) (fsF := fl1 G _) ob_57.1 (fun _ => en1 ob_57.2) rfl rfl dX2_lackPlace_29 (s2_signAt h) (gV tbc kM_RX2_19_X2_signAt kI_X2_signAt kS_X2_signAt kN_RX2 kC_X2_signAt) rfl (by decide +kernel) ⟨Nat.le_of_ble_eq_true rfl, Nat.le_of_ble_eq_true rfl⟩ rfl rfl (Nat.le_of_ble_eq_true rfl) ⟨Nat.le_refl 0, Nat.le_refl 0⟩ (fun r M h => ?_)
        refine a_callSi (n := 1) [.int _] dX2_lackPlace_32 (s2_digitsBehind h) (gS tbc kM_RX2_30_X2_digitsBehind kT_X2_digitsBehind kN_RX2 kC_X2_digitsBehind) rfl (by decide +kernel) ⟨Nat.le_of_ble_eq_true rfl, Nat.le_of_ble_eq_true rfl⟩ rfl rfl (Nat.le_of_ble_eq_true rfl) ⟨Nat.le_refl 0, Nat.le_refl 0⟩ (fun r M h => ?_)
        refine a_istore_n (i := 3) (L' := [(3, .int _), (0, .ref _), (1, .int _), (2, .int _)]) dX2_lackPlace_35 rfl (by decide) rfl ?_
        refine a_iload_n dX2_lackPlace_36 0 rfl ?_
        refine a_if_ge (tgt := 42) dX2_lackPlace_37 (by decide) (fun c => ?_) (fun c => ?_)
        · have h := h.1 c
          refine a_iconst (v := 1) dX2_lackPlace_42 (by decide) ?_
          refine a_istore (i := 4) (L' := [(4, .int _), (3, .int _), (0, .ref _), (1, .int _), (2, .int _)]) dX2_lackPlace_43 (by decide) rfl ?_
          refine a_sub [2, 3, 4, 1, 0] rfl ?_
          exact s2_lackPlace_c45 ih _ _ _ _ _ _ h
        · have h := h.2 c
          refine a_iload_n dX2_lackPlace_40 2 rfl ?_
          exact a_iret dX2_lackPlace_41 ⟨_, rfl, h⟩
set_option maxHeartbeats 4000000 in
set_option maxRecDepth 100000 in
theorem s2_lackPlace {G : GG} {M : MM} {Q : Int32 → MM → Prop} (h : D2_lackPlace M Q) : CM G yX2_lackPlace (WY yX2_lackPlace cX2_lackPlace 5 (some .int)) 2 42 [.ref (gA G 57)] M (qI Q) := by
  refine CM.of (cc := cX2_lackPlace) (nL := 5) (ret := (some .int)) (own := RX2) (by decide +kernel) rfl rfl (Nat.le_of_ble_eq_true rfl) ?_
  show A2_lackPlace G Q 0 [(0, .ref (gA G 57))] [] M
  unfold D2_lackPlace at h
  refine a_aload_n dX2_lackPlace_0 0 rfl ?_
  refine a_get1 dX2_lackPlace_1 1 (by decide) (tbc _ kF_RX2_15) (fun w h => tbc _ (uW1 w h)) rfl ob_57 rfl ?_
  refine a_if_ne (tgt := 9) dX2_lackPlace_4 (by decide) (fun c => ?_) (fun c => ?_)
  · have h := h.1 c
    refine a_iconst (v := 0) dX2_lackPlace_9 (by decide) ?_
    refine a_istore_n (i := 1) (L' := [(1, .int _), (0, .ref _)]) dX2_lackPlace_10 rfl (by decide) rfl ?_
    refine a_iconst (v := 0) dX2_lackPlace_11 (by decide) ?_
    refine a_istore_n (i := 2) (L' := [(2, .int _), (1, .int _), (0, .ref _)]) dX2_lackPlace_12 rfl (by decide) rfl ?_
    refine a_sub [2, 1, 0] rfl ?_
    exact s2_lackPlace_c13 _ _ _ _ h
  · have h := h.2 c
    refine a_iconst (v := 0) dX2_lackPlace_7 (by decide) ?_
    exact a_iret dX2_lackPlace_8 ⟨_, rfl, h⟩

/-! X2_size -/
theorem dX2_size_0 : decode cX2_size 0 = .ok (.aload_n 0, 1) := by decide +kernel
theorem dX2_size_1 : decode cX2_size 1 = .ok (.getfield 15, 3) := by decide +kernel
theorem dX2_size_4 : decode cX2_size 4 = .ok (.ireturn, 1) := by decide +kernel
abbrev A2_size (G : GG) (Q : Int32 → MM → Prop) := AW G E0 (MZ G (qI Q)) (WY yX2_size cX2_size 1 (some .int)) RX2 cX2_size 1 (some .int) ({ frames := 0, cells := 0, slots := 0, locals := 0 } : Room) 0 0
def D2_size (M : MM) (Q : Int32 → MM → Prop) : Prop := Q (M 57 1) M
set_option maxHeartbeats 4000000 in
set_option maxRecDepth 100000 in
theorem s2_size {G : GG} {M : MM} {Q : Int32 → MM → Prop} (h : D2_size M Q) : CM G yX2_size (WY yX2_size cX2_size 1 (some .int)) 0 0 [.ref (gA G 57)] M (qI Q) := by
  refine CM.of (cc := cX2_size) (nL := 1) (ret := (some .int)) (own := RX2) (by decide +kernel) rfl rfl (Nat.le_of_ble_eq_true rfl) ?_
  show A2_size G Q 0 [(0, .ref (gA G 57))] [] M
  unfold D2_size at h
  refine a_aload_n dX2_size_0 0 rfl ?_
  refine a_get1 dX2_size_1 1 (by decide) (tbc _ kF_RX2_15) (fun w h => tbc _ (uW1 w h)) rfl ob_57 rfl ?_
  exact a_iret dX2_size_4 ⟨_, rfl, h⟩
