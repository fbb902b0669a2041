/-! J6_bitCount_0f7a4 -/
theorem dJ6_bitCount_0f7a4_0 : decode cJ6_bitCount_0f7a4 0 = .ok (.iload_n 0, 1) := by decide +kernel
theorem dJ6_bitCount_0f7a4_1 : decode cJ6_bitCount_0f7a4 1 = .ok (.iload_n 0, 1) := by decide +kernel
theorem dJ6_bitCount_0f7a4_2 : decode cJ6_bitCount_0f7a4 2 = .ok (.iconst 1, 1) := by decide +kernel
theorem dJ6_bitCount_0f7a4_3 : decode cJ6_bitCount_0f7a4 3 = .ok (.iushr, 1) := by decide +kernel
theorem dJ6_bitCount_0f7a4_4 : decode cJ6_bitCount_0f7a4 4 = .ok (.ldc_w 265, 3) := by decide +kernel
theorem dJ6_bitCount_0f7a4_7 : decode cJ6_bitCount_0f7a4 7 = .ok (.iand, 1) := by decide +kernel
theorem dJ6_bitCount_0f7a4_8 : decode cJ6_bitCount_0f7a4 8 = .ok (.isub, 1) := by decide +kernel
theorem dJ6_bitCount_0f7a4_9 : decode cJ6_bitCount_0f7a4 9 = .ok (.istore_n 0, 1) := by decide +kernel
theorem dJ6_bitCount_0f7a4_10 : decode cJ6_bitCount_0f7a4 10 = .ok (.iload_n 0, 1) := by decide +kernel
theorem dJ6_bitCount_0f7a4_11 : decode cJ6_bitCount_0f7a4 11 = .ok (.ldc_w 266, 3) := by decide +kernel
theorem dJ6_bitCount_0f7a4_14 : decode cJ6_bitCount_0f7a4 14 = .ok (.iand, 1) := by decide +kernel
theorem dJ6_bitCount_0f7a4_15 : decode cJ6_bitCount_0f7a4 15 = .ok (.iload_n 0, 1) := by decide +kernel
theorem dJ6_bitCount_0f7a4_16 : decode cJ6_bitCount_0f7a4 16 = .ok (.iconst 2, 1) := by decide +kernel
theorem dJ6_bitCount_0f7a4_17 : decode cJ6_bitCount_0f7a4 17 = .ok (.iushr, 1) := by decide +kernel
theorem dJ6_bitCount_0f7a4_18 : decode cJ6_bitCount_0f7a4 18 = .ok (.ldc_w 266, 3) := by decide +kernel
theorem dJ6_bitCount_0f7a4_21 : decode cJ6_bitCount_0f7a4 21 = .ok (.iand, 1) := by decide +kernel
theorem dJ6_bitCount_0f7a4_22 : decode cJ6_bitCount_0f7a4 22 = .ok (.iadd, 1) := by decide +kernel
theorem dJ6_bitCount_0f7a4_23 : decode cJ6_bitCount_0f7a4 23 = .ok (.istore_n 0, 1) := by decide +kernel
theorem dJ6_bitCount_0f7a4_24 : decode cJ6_bitCount_0f7a4 24 = .ok (.iload_n 0, 1) := by decide +kernel
theorem dJ6_bitCount_0f7a4_25 : decode cJ6_bitCount_0f7a4 25 = .ok (.iload_n 0, 1) := by decide +kernel
theorem dJ6_bitCount_0f7a4_26 : decode cJ6_bitCount_0f7a4 26 = .ok (.iconst 4, 1) := by decide +kernel
theorem dJ6_bitCount_0f7a4_27 : decode cJ6_bitCount_0f7a4 27 = .ok (.iushr, 1) := by decide +kernel
theorem dJ6_bitCount_0f7a4_28 : decode cJ6_bitCount_0f7a4 28 = .ok (.iadd, 1) := by decide +kernel
theorem dJ6_bitCount_0f7a4_29 : decode cJ6_bitCount_0f7a4 29 = .ok (.ldc_w 267, 3) := by decide +kernel
theorem dJ6_bitCount_0f7a4_32 : decode cJ6_bitCount_0f7a4 32 = .ok (.iand, 1) := by decide +kernel
theorem dJ6_bitCount_0f7a4_33 : decode cJ6_bitCount_0f7a4 33 = .ok (.istore_n 0, 1) := by decide +kernel
theorem dJ6_bitCount_0f7a4_34 : decode cJ6_bitCount_0f7a4 34 = .ok (.iload_n 0, 1) := by decide +kernel
theorem dJ6_bitCount_0f7a4_35 : decode cJ6_bitCount_0f7a4 35 = .ok (.iload_n 0, 1) := by decide +kernel
theorem dJ6_bitCount_0f7a4_36 : decode cJ6_bitCount_0f7a4 36 = .ok (.bipush 8, 2) := by decide +kernel
theorem dJ6_bitCount_0f7a4_38 : decode cJ6_bitCount_0f7a4 38 = .ok (.iushr, 1) := by decide +kernel
theorem dJ6_bitCount_0f7a4_39 : decode cJ6_bitCount_0f7a4 39 = .ok (.iadd, 1) := by decide +kernel
theorem dJ6_bitCount_0f7a4_40 : decode cJ6_bitCount_0f7a4 40 = .ok (.istore_n 0, 1) := by decide +kernel
theorem dJ6_bitCount_0f7a4_41 : decode cJ6_bitCount_0f7a4 41 = .ok (.iload_n 0, 1) := by decide +kernel
theorem dJ6_bitCount_0f7a4_42 : decode cJ6_bitCount_0f7a4 42 = .ok (.iload_n 0, 1) := by decide +kernel
theorem dJ6_bitCount_0f7a4_43 : decode cJ6_bitCount_0f7a4 43 = .ok (.bipush 16, 2) := by decide +kernel
theorem dJ6_bitCount_0f7a4_45 : decode cJ6_bitCount_0f7a4 45 = .ok (.iushr, 1) := by decide +kernel
theorem dJ6_bitCount_0f7a4_46 : decode cJ6_bitCount_0f7a4 46 = .ok (.iadd, 1) := by decide +kernel
theorem dJ6_bitCount_0f7a4_47 : decode cJ6_bitCount_0f7a4 47 = .ok (.istore_n 0, 1) := by decide +kernel
theorem dJ6_bitCount_0f7a4_48 : decode cJ6_bitCount_0f7a4 48 = .ok (.iload_n 0, 1) := by decide +kernel
theorem dJ6_bitCount_0f7a4_49 : decode cJ6_bitCount_0f7a4 49 = .ok (.bipush 63, 2) := by decide +kernel
theorem dJ6_bitCount_0f7a4_51 : decode cJ6_bitCount_0f7a4 51 = .ok (.iand, 1) := by decide +kernel
theorem dJ6_bitCount_0f7a4_52 : decode cJ6_bitCount_0f7a4 52 = .ok (.ireturn, 1) := by decide +kernel
abbrev AJ6_bitCount (G : GG) (Q : Int32 → MM → Prop) := AW G E0 (MZ G (qI Q)) (WY yJ6_bitCount_0f7a4 cJ6_bitCount_0f7a4 1 (some .int)) RJ6 cJ6_bitCount_0f7a4 1 (some .int) ({ frames := 0, cells := 0, slots := 0, locals := 0 } : Room) 0 0
def DJ6_bitCount (x0 : Int32) (M : MM) (Q : Int32 → MM → Prop) : Prop := (fun v1 : Int32 => (fun v2 : Int32 => (fun v3 : Int32 => (fun v4 : Int32 => (fun v5 : Int32 => Q (v5 &&& (63 : Int32)) M) (v4 + ((v4.toUInt32 >>> ((16 : Int32).toUInt32 &&& Int32.toUInt32 31)).toInt32))) (v3 + ((v3.toUInt32 >>> ((8 : Int32).toUInt32 &&& Int32.toUInt32 31)).toInt32))) ((v2 + ((v2.toUInt32 >>> ((4 : Int32).toUInt32 &&& Int32.toUInt32 31)).toInt32)) &&& (252645135 : Int32))) ((v1 &&& (858993459 : Int32)) + (((v1.toUInt32 >>> ((2 : Int32).toUInt32 &&& Int32.toUInt32 31)).toInt32) &&& (858993459 : Int32)))) (x0 - (((x0.toUInt32 >>> ((1 : Int32).toUInt32 &&& Int32.toUInt32 31)).toInt32) &&& (1431655765 : Int32)))
set_option maxHeartbeats 4000000 in
set_option maxRecDepth 100000 in
theorem sJ6_bitCount {G : GG} {x0 : Int32} {M : MM} {Q : Int32 → MM → Prop} (h : DJ6_bitCount x0 M Q) : CM G yJ6_bitCount_0f7a4 (WY yJ6_bitCount_0f7a4 cJ6_bitCount_0f7a4 1 (some .int)) 0 0 [.int x0] M (qI Q) := by
  refine CM.of (cc := cJ6_bitCount_0f7a4) (nL := 1) (ret := (some .int)) (own := RJ6) (by decide +kernel) rfl rfl (Nat.le_of_ble_eq_true rfl) ?_
  show AJ6_bitCount G Q 0 [(0, .int x0)] [] M
  unfold DJ6_bitCount at h
  refine a_iload_n dJ6_bitCount_0f7a4_0 0 rfl ?_
  refine a_iload_n dJ6_bitCount_0f7a4_1 0 rfl ?_
  refine a_iconst (v := 1) dJ6_bitCount_0f7a4_2 (by decide) ?_
  refine a_iushr dJ6_bitCount_0f7a4_3 rfl ?_
  refine a_ldcw dJ6_bitCount_0f7a4_4 (tbc _ kK_RJ6_265) ?_
  refine a_iand dJ6_bitCount_0f7a4_7 ?_
  refine a_isub dJ6_bitCount_0f7a4_8 ?_
  refine a_istore_n (i := 0) (L' := [(0, .int _)]) dJ6_bitCount_0f7a4_9 rfl (by decide) rfl ?_
  refine a_iload_n dJ6_bitCount_0f7a4_10 0 rfl ?_
  refine a_ldcw dJ6_bitCount_0f7a4_11 (tbc _ kK_RJ6_266) ?_
  refine a_iand dJ6_bitCount_0f7a4_14 ?_
  refine a_iload_n dJ6_bitCount_0f7a4_15 0 rfl ?_
  refine a_iconst (v := 2) dJ6_bitCount_0f7a4_16 (by decide) ?_
  refine a_iushr dJ6_bitCount_0f7a4_17 rfl ?_
  refine a_ldcw dJ6_bitCount_0f7a4_18 (tbc _ kK_RJ6_266) ?_
  refine a_iand dJ6_bitCount_0f7a4_21 ?_
  refine a_iadd dJ6_bitCount_0f7a4_22 ?_
  refine a_istore_n (i := 0) (L' := [(0, .int _)]) dJ6_bitCount_0f7a4_23 rfl (by decide) rfl ?_
  refine a_iload_n dJ6_bitCount_0f7a4_24 0 rfl ?_
  refine a_iload_n dJ6_bitCount_0f7a4_25 0 rfl ?_
  refine a_iconst (v := 4) dJ6_bitCount_0f7a4_26 (by decide) ?_
  refine a_iushr dJ6_bitCount_0f7a4_27 rfl ?_
  refine a_iadd dJ6_bitCount_0f7a4_28 ?_
  refine a_ldcw dJ6_bitCount_0f7a4_29 (tbc _ kK_RJ6_267) ?_
  refine a_iand dJ6_bitCount_0f7a4_32 ?_
  refine a_istore_n (i := 0) (L' := [(0, .int _)]) dJ6_bitCount_0f7a4_33 rfl (by decide) rfl ?_
  refine a_iload_n dJ6_bitCount_0f7a4_34 0 rfl ?_
  refine a_iload_n dJ6_bitCount_0f7a4_35 0 rfl ?_
  refine a_bipush (v := 8) dJ6_bitCount_0f7a4_36 (by decide) ?_
  refine a_iushr dJ6_bitCount_0f7a4_38 rfl ?_
  refine a_iadd dJ6_bitCount_0f7a4_39 ?_
  refine a_istore_n (i := 0) (L' := [(0, .int _)]) dJ6_bitCount_0f7a4_40 rfl (by decide) rfl ?_
  refine a_iload_n dJ6_bitCount_0f7a4_41 0 rfl ?_
  refine a_iload_n dJ6_bitCount_0f7a4_42 0 rfl ?_
  refine a_bipush (v := 16) dJ6_bitCount_0f7a4_43 (by decide) ?_
  refine a_iushr dJ6_bitCount_0f7a4_45 rfl ?_
  refine a_iadd dJ6_bitCount_0f7a4_46 ?_
  refine a_istore_n (i := 0) (L' := [(0, .int _)]) dJ6_bitCount_0f7a4_47 rfl (by decide) rfl ?_
  refine a_iload_n dJ6_bitCount_0f7a4_48 0 rfl ?_
  refine a_bipush (v := 63) dJ6_bitCount_0f7a4_49 (by decide) ?_
  refine a_iand dJ6_bitCount_0f7a4_51 ?_
  exact a_iret dJ6_bitCount_0f7a4_52 ⟨_, rfl, h⟩

/-! J9_floorMod_7cf53 -/
theorem dJ9_floorMod_7cf53_0 : decode cJ9_floorMod_7cf53 0 = .ok (.iload_n 0, 1) := by decide +kernel
theorem dJ9_floorMod_7cf53_1 : decode cJ9_floorMod_7cf53 1 = .ok (.iload_n 1, 1) := by decide +kernel
theorem dJ9_floorMod_7cf53_2 : decode cJ9_floorMod_7cf53 2 = .ok (.irem, 1) := by decide +kernel
theorem dJ9_floorMod_7cf53_3 : decode cJ9_floorMod_7cf53 3 = .ok (.istore_n 2, 1) := by decide +kernel
theorem dJ9_floorMod_7cf53_4 : decode cJ9_floorMod_7cf53 4 = .ok (.iload_n 0, 1) := by decide +kernel
theorem dJ9_floorMod_7cf53_5 : decode cJ9_floorMod_7cf53 5 = .ok (.iload_n 1, 1) := by decide +kernel
theorem dJ9_floorMod_7cf53_6 : decode cJ9_floorMod_7cf53 6 = .ok (.ixor, 1) := by decide +kernel
theorem dJ9_floorMod_7cf53_7 : decode cJ9_floorMod_7cf53 7 = .ok (.ifCond .ge 11, 3) := by decide +kernel
theorem dJ9_floorMod_7cf53_10 : decode cJ9_floorMod_7cf53 10 = .ok (.iload_n 2, 1) := by decide +kernel
theorem dJ9_floorMod_7cf53_11 : decode cJ9_floorMod_7cf53 11 = .ok (.ifCond .eq 7, 3) := by decide +kernel
theorem dJ9_floorMod_7cf53_14 : decode cJ9_floorMod_7cf53 14 = .ok (.iload_n 2, 1) := by decide +kernel
theorem dJ9_floorMod_7cf53_15 : decode cJ9_floorMod_7cf53 15 = .ok (.iload_n 1, 1) := by decide +kernel
theorem dJ9_floorMod_7cf53_16 : decode cJ9_floorMod_7cf53 16 = .ok (.iadd, 1) := by decide +kernel
theorem dJ9_floorMod_7cf53_17 : decode cJ9_floorMod_7cf53 17 = .ok (.ireturn, 1) := by decide +kernel
theorem dJ9_floorMod_7cf53_18 : decode cJ9_floorMod_7cf53 18 = .ok (.iload_n 2, 1) := by decide +kernel
theorem dJ9_floorMod_7cf53_19 : decode cJ9_floorMod_7cf53 19 = .ok (.ireturn, 1) := by decide +kernel
abbrev AJ9_floorMod (G : GG) (Q : Int32 → MM → Prop) := AW G E0 (MZ G (qI Q)) (WY yJ9_floorMod_7cf53 cJ9_floorMod_7cf53 3 (some .int)) RJ9 cJ9_floorMod_7cf53 3 (some .int) ({ frames := 0, cells := 0, slots := 0, locals := 0 } : Room) 0 0
def DJ9_floorMod (x0 : Int32) (x1 : Int32) (M : MM) (Q : Int32 → MM → Prop) : Prop := ¬ x1 = 0 ∧ (fun v1 : Int32 => ((0 ≤ (x0 ^^^ x1) → Q v1 M) ∧ (¬ 0 ≤ (x0 ^^^ x1) → ((v1 = 0 → Q v1 M) ∧ (¬ v1 = 0 → Q (v1 + x1) M))))) (x0 - x0 / x1 * x1)
set_option maxHeartbeats 4000000 in
set_option maxRecDepth 100000 in
theorem sJ9_floorMod {G : GG} {x0 : Int32} {x1 : Int32} {M : MM} {Q : Int32 → MM → Prop} (h : DJ9_floorMod x0 x1 M Q) : CM G yJ9_floorMod_7cf53 (WY yJ9_floorMod_7cf53 cJ9_floorMod_7cf53 3 (some .int)) 0 0 [.int x0, .int x1] M (qI Q) := by
  refine CM.of (cc := cJ9_floorMod_7cf53) (nL := 3) (ret := (some .int)) (own := RJ9) (by decide +kernel) rfl rfl (Nat.le_of_ble_eq_true rfl) ?_
  show AJ9_floorMod G Q 0 [(0, .int x0), (1, .int x1)] [] M
  unfold DJ9_floorMod at h
  refine a_iload_n dJ9_floorMod_7cf53_0 0 rfl ?_
  refine a_iload_n dJ9_floorMod_7cf53_1 1 rfl ?_
  refine a_irem dJ9_floorMod_7cf53_2 h.1 ?_
  have h := h.2
  refine a_istore_n (i := 2) (L' := [(2, .int _), (0, .int _), (1, .int _)]) dJ9_floorMod_7cf53_3 rfl (by decide) rfl ?_
  refine a_iload_n dJ9_floorMod_7cf53_4 1 rfl ?_
  refine a_iload_n dJ9_floorMod_7cf53_5 2 rfl ?_
  refine a_ixor dJ9_floorMod_7cf53_6 ?_
  refine a_if_ge (tgt := 18) dJ9_floorMod_7cf53_7 (by decide) (fun c => ?_) (fun c => ?_)
  · have h := h.1 c
    refine a_iload_n dJ9_floorMod_7cf53_18 0 rfl ?_
    exact a_iret dJ9_floorMod_7cf53_19 ⟨_, rfl, h⟩
  · have h := h.2 c
    refine a_iload_n dJ9_floorMod_7cf53_10 0 rfl ?_
    refine a_if_eq (tgt := 18) dJ9_floorMod_7cf53_11 (by decide) (fun c => ?_) (fun c => ?_)
    · have h := h.1 c
      refine a_iload_n dJ9_floorMod_7cf53_18 0 rfl ?_
      exact a_iret dJ9_floorMod_7cf53_19 ⟨_, rfl, h⟩
    · have h := h.2 c
      refine a_iload_n dJ9_floorMod_7cf53_14 0 rfl ?_
      refine a_iload_n dJ9_floorMod_7cf53_15 2 rfl ?_
      refine a_iadd dJ9_floorMod_7cf53_16 ?_
      exact a_iret dJ9_floorMod_7cf53_17 ⟨_, rfl, h⟩

/-! X3_beside -/
theorem dX3_beside_0 : decode cX3_beside 0 = .ok (.iload_n 0, 1) := by decide +kernel
theorem dX3_beside_1 : decode cX3_beside 1 = .ok (.ldc 24, 2) := by decide +kernel
theorem dX3_beside_3 : decode cX3_beside 3 = .ok (.iand, 1) := by decide +kernel
theorem dX3_beside_4 : decode cX3_beside 4 = .ok (.iconst 1, 1) := by decide +kernel
theorem dX3_beside_5 : decode cX3_beside 5 = .ok (.ishl, 1) := by decide +kernel
theorem dX3_beside_6 : decode cX3_beside 6 = .ok (.iload_n 0, 1) := by decide +kernel
theorem dX3_beside_7 : decode cX3_beside 7 = .ok (.ldc 25, 2) := by decide +kernel
theorem dX3_beside_9 : decode cX3_beside 9 = .ok (.iand, 1) := by decide +kernel
theorem dX3_beside_10 : decode cX3_beside 10 = .ok (.iconst 1, 1) := by decide +kernel
theorem dX3_beside_11 : decode cX3_beside 11 = .ok (.ishr, 1) := by decide +kernel
theorem dX3_beside_12 : decode cX3_beside 12 = .ok (.ior, 1) := by decide +kernel
theorem dX3_beside_13 : decode cX3_beside 13 = .ok (.istore_n 1, 1) := by decide +kernel
theorem dX3_beside_14 : decode cX3_beside 14 = .ok (.iload_n 1, 1) := by decide +kernel
theorem dX3_beside_15 : decode cX3_beside 15 = .ok (.iload_n 0, 1) := by decide +kernel
theorem dX3_beside_16 : decode cX3_beside 16 = .ok (.iconst 5, 1) := by decide +kernel
theorem dX3_beside_17 : decode cX3_beside 17 = .ok (.ishl, 1) := by decide +kernel
theorem dX3_beside_18 : decode cX3_beside 18 = .ok (.ior, 1) := by decide +kernel
theorem dX3_beside_19 : decode cX3_beside 19 = .ok (.iload_n 0, 1) := by decide +kernel
theorem dX3_beside_20 : decode cX3_beside 20 = .ok (.iconst 5, 1) := by decide +kernel
theorem dX3_beside_21 : decode cX3_beside 21 = .ok (.ishr, 1) := by decide +kernel
theorem dX3_beside_22 : decode cX3_beside 22 = .ok (.ior, 1) := by decide +kernel
theorem dX3_beside_23 : decode cX3_beside 23 = .ok (.ldc 26, 2) := by decide +kernel
theorem dX3_beside_25 : decode cX3_beside 25 = .ok (.iand, 1) := by decide +kernel
theorem dX3_beside_26 : decode cX3_beside 26 = .ok (.ireturn, 1) := by decide +kernel
abbrev A3_beside (G : GG) (Q : Int32 → MM → Prop) := AW G E0 (MZ G (qI Q)) (WY yX3_beside cX3_beside 2 (some .int)) RX3 cX3_beside 2 (some .int) ({ frames := 0, cells := 0, slots := 0, locals := 0 } : Room) 0 0
def D3_beside (x0 : Int32) (M : MM) (Q : Int32 → MM → Prop) : Prop := (fun v1 : Int32 => Q (((v1 ||| (x0 <<< ((5 : Int32) &&& 31))) ||| (x0 >>> ((5 : Int32) &&& 31))) &&& (33554431 : Int32)) M) (((x0 &&& (16236015 : Int32)) <<< ((1 : Int32) &&& 31)) ||| ((x0 &&& (32472030 : Int32)) >>> ((1 : Int32) &&& 31)))
set_option maxHeartbeats 4000000 in
set_option maxRecDepth 100000 in
theorem s3_beside {G : GG} {x0 : Int32} {M : MM} {Q : Int32 → MM → Prop} (h : D3_beside x0 M Q) : CM G yX3_beside (WY yX3_beside cX3_beside 2 (some .int)) 0 0 [.int x0] M (qI Q) := by
  refine CM.of (cc := cX3_beside) (nL := 2) (ret := (some .int)) (own := RX3) (by decide +kernel) rfl rfl (Nat.le_of_ble_eq_true rfl) ?_
  show A3_beside G Q 0 [(0, .int x0)] [] M
  unfold D3_beside at h
  refine a_iload_n dX3_beside_0 0 rfl ?_
  refine a_ldc dX3_beside_1 (tbc _ kK_RX3_24) ?_
  refine a_iand dX3_beside_3 ?_
  refine a_iconst (v := 1) dX3_beside_4 (by decide) ?_
  refine a_ishl dX3_beside_5 ?_
  refine a_iload_n dX3_beside_6 0 rfl ?_
  refine a_ldc dX3_beside_7 (tbc _ kK_RX3_25) ?_
  refine a_iand dX3_beside_9 ?_
  refine a_iconst (v := 1) dX3_beside_10 (by decide) ?_
  refine a_ishr dX3_beside_11 ?_
  refine a_ior dX3_beside_12 ?_
  refine a_istore_n (i := 1) (L' := [(1, .int _), (0, .int _)]) dX3_beside_13 rfl (by decide) rfl ?_
  refine a_iload_n dX3_beside_14 0 rfl ?_
  refine a_iload_n dX3_beside_15 1 rfl ?_
  refine a_iconst (v := 5) dX3_beside_16 (by decide) ?_
  refine a_ishl dX3_beside_17 ?_
  refine a_ior dX3_beside_18 ?_
  refine a_iload_n dX3_beside_19 1 rfl ?_
  refine a_iconst (v := 5) dX3_beside_20 (by decide) ?_
  refine a_ishr dX3_beside_21 ?_
  refine a_ior dX3_beside_22 ?_
  refine a_ldc dX3_beside_23 (tbc _ kK_RX3_26) ?_
  refine a_iand dX3_beside_25 ?_
  exact a_iret dX3_beside_26 ⟨_, rfl, h⟩

/-! X3_has -/
theorem dX3_has_0 : decode cX3_has 0 = .ok (.iload_n 0, 1) := by decide +kernel
theorem dX3_has_1 : decode cX3_has 1 = .ok (.iload_n 1, 1) := by decide +kernel
theorem dX3_has_2 : decode cX3_has 2 = .ok (.ishr, 1) := by decide +kernel
theorem dX3_has_3 : decode cX3_has 3 = .ok (.iconst 1, 1) := by decide +kernel
theorem dX3_has_4 : decode cX3_has 4 = .ok (.iand, 1) := by decide +kernel
theorem dX3_has_5 : decode cX3_has 5 = .ok (.ifCond .eq 7, 3) := by decide +kernel
theorem dX3_has_8 : decode cX3_has 8 = .ok (.iconst 1, 1) := by decide +kernel
theorem dX3_has_9 : decode cX3_has 9 = .ok (.goto 4, 3) := by decide +kernel
theorem dX3_has_12 : decode cX3_has 12 = .ok (.iconst 0, 1) := by decide +kernel
theorem dX3_has_13 : decode cX3_has 13 = .ok (.ireturn, 1) := by decide +kernel
abbrev A3_has (G : GG) (Q : Int32 → MM → Prop) := AW G E0 (MZ G (qI Q)) (WY yX3_has cX3_has 2 (some .boolean)) RX3 cX3_has 2 (some .boolean) ({ frames := 0, cells := 0, slots := 0, locals := 0 } : Room) 0 0
def D3_has (x0 : Int32) (x1 : Int32) (M : MM) (Q : Int32 → MM → Prop) : Prop := ((((x0 >>> (x1 &&& 31)) &&& (1 : Int32)) = 0 → Q (0 : Int32) M) ∧ (¬ ((x0 >>> (x1 &&& 31)) &&& (1 : Int32)) = 0 → Q (1 : Int32) M))
set_option maxHeartbeats 4000000 in
set_option maxRecDepth 100000 in
theorem s3_has {G : GG} {x0 : Int32} {x1 : Int32} {M : MM} {Q : Int32 → MM → Prop} (h : D3_has x0 x1 M Q) : CM G yX3_has (WY yX3_has cX3_has 2 (some .boolean)) 0 0 [.int x0, .int x1] M (qI Q) := by
  refine CM.of (cc := cX3_has) (nL := 2) (ret := (some .boolean)) (own := RX3) (by decide +kernel) rfl rfl (Nat.le_of_ble_eq_true rfl) ?_
  show A3_has G Q 0 [(0, .int x0), (1, .int x1)] [] M
  unfold D3_has at h
  refine a_iload_n dX3_has_0 0 rfl ?_
  refine a_iload_n dX3_has_1 1 rfl ?_
  refine a_ishr dX3_has_2 ?_
  refine a_iconst (v := 1) dX3_has_3 (by decide) ?_
  refine a_iand dX3_has_4 ?_
  refine a_if_eq (tgt := 12) dX3_has_5 (by decide) (fun c => ?_) (fun c => ?_)
  · have h := h.1 c
    refine a_iconst (v := 0) dX3_has_12 (by decide) ?_
    exact a_zret dX3_has_13 (Or.inl rfl) ⟨_, rfl, h⟩
  · have h := h.2 c
    refine a_iconst (v := 1) dX3_has_8 (by decide) ?_
    refine a_goto (tgt := 13) dX3_has_9 (by decide) ?_
    exact a_zret dX3_has_13 (Or.inr rfl) ⟨_, rfl, h⟩

/-! X3_height -/
theorem dX3_height_0 : decode cX3_height 0 = .ok (.iconst 0, 1) := by decide +kernel
theorem dX3_height_1 : decode cX3_height 1 = .ok (.iconst 5, 1) := by decide +kernel
theorem dX3_height_2 : decode cX3_height 2 = .ok (.iload_n 0, 1) := by decide +kernel
theorem dX3_height_3 : decode cX3_height 3 = .ok (.bipush 12, 2) := by decide +kernel
theorem dX3_height_5 : decode cX3_height 5 = .ok (.invokestatic 11, 3) := by decide +kernel
theorem dX3_height_8 : decode cX3_height 8 = .ok (.bipush 6, 2) := by decide +kernel
theorem dX3_height_10 : decode cX3_height 10 = .ok (.isub, 1) := by decide +kernel
theorem dX3_height_11 : decode cX3_height 11 = .ok (.invokestatic 17, 3) := by decide +kernel
theorem dX3_height_14 : decode cX3_height 14 = .ok (.isub, 1) := by decide +kernel
theorem dX3_height_15 : decode cX3_height 15 = .ok (.invokestatic 21, 3) := by decide +kernel
theorem dX3_height_18 : decode cX3_height 18 = .ok (.ireturn, 1) := by decide +kernel
abbrev A3_height (G : GG) (Q : Int32 → MM → Prop) := AW G E0 (MZ G (qI Q)) (WY yX3_height cX3_height 1 (some .int)) RX3 cX3_height 1 (some .int) ({ frames := 1, cells := 0, slots := 0, locals := 22 } : Room) 0 0
def D3_height (x0 : Int32) (M : MM) (Q : Int32 → MM → Prop) : Prop := DJ9_floorMod x0 (12 : Int32) M (fun (r1 : Int32) (M2 : MM) => Q (if (0 : Int32) < ((5 : Int32) - (if 0 ≤ (r1 - (6 : Int32)) then (r1 - (6 : Int32)) else 0 - (r1 - (6 : Int32)))) then ((5 : Int32) - (if 0 ≤ (r1 - (6 : Int32)) then (r1 - (6 : Int32)) else 0 - (r1 - (6 : Int32)))) else (0 : Int32)) M2)
set_option maxHeartbeats 4000000 in
set_option maxRecDepth 100000 in
theorem s3_height {G : GG} {x0 : Int32} {M : MM} {Q : Int32 → MM → Prop} (h : D3_height x0 M Q) : CM G yX3_height (WY yX3_height cX3_height 1 (some .int)) 1 22 [.int x0] M (qI Q) := by
  refine CM.of (cc := cX3_height) (nL := 1) (ret := (some .int)) (own := RX3) (by decide +kernel) rfl rfl (Nat.le_of_ble_eq_true rfl) ?_
  show A3_height G Q 0 [(0, .int x0)] [] M
  unfold D3_height at h
  refine a_iconst (v := 0) dX3_height_0 (by decide) ?_
  refine a_iconst (v := 5) dX3_height_1 (by decide) ?_
  refine a_iload_n dX3_height_2 0 rfl ?_
  refine a_bipush (v := 12) dX3_height_3 (by decide) ?_
  refine a_callSi (n := 2) [.int _, .int _] dX3_height_5 (sJ9_floorMod h) (gS tbc kM_RX3_11_J9_floorMod_7cf53 kT_J9_floorMod_7cf53 kN_RJ9 kC_J9_floorMod_7cf53) rfl (by decide +kernel) ⟨Nat.le_of_ble_eq_true rfl, Nat.le_of_ble_eq_true rfl⟩ rfl rfl (Nat.le_of_ble_eq_true rfl) ⟨Nat.le_refl 0, Nat.le_refl 0⟩ (fun r M h => ?_)
  refine a_bipush (v := 6) dX3_height_8 (by decide) ?_
  refine a_isub dX3_height_10 ?_
  refine a_mabs dX3_height_11 (tbc _ kM_RX3_17_Lib_Math_abs_name) (tbc _ kT_Lib_Math_abs_name) (tbc _ kN_Math) (tbc _ kC_Lib_Math_abs_name) (Nat.le_of_ble_eq_true rfl) (Nat.le_of_ble_eq_true rfl) (Nat.le_refl 0) (Nat.le_refl 0) ?_
  refine a_isub dX3_height_14 ?_
  refine a_mmax dX3_height_15 (tbc _ kM_RX3_21_Lib_Math_max_name) (tbc _ kT_Lib_Math_max_name) (tbc _ kN_Math) (tbc _ kC_Lib_Math_max_name) (Nat.le_of_ble_eq_true rfl) (Nat.le_of_ble_eq_true rfl) (Nat.le_refl 0) (Nat.le_refl 0) ?_
  exact a_iret dX3_height_18 ⟨_, rfl, h⟩

/-! X3_lowestRows -/
theorem dX3_lowestRows_0 : decode cX3_lowestRows 0 = .ok (.ldc 26, 2) := by decide +kernel
theorem dX3_lowestRows_2 : decode cX3_lowestRows 2 = .ok (.ldc 26, 2) := by decide +kernel
theorem dX3_lowestRows_4 : decode cX3_lowestRows 4 = .ok (.iconst 5, 1) := by decide +kernel
theorem dX3_lowestRows_5 : decode cX3_lowestRows 5 = .ok (.iconst 5, 1) := by decide +kernel
theorem dX3_lowestRows_6 : decode cX3_lowestRows 6 = .ok (.iload_n 0, 1) := by decide +kernel
theorem dX3_lowestRows_7 : decode cX3_lowestRows 7 = .ok (.isub, 1) := by decide +kernel
theorem dX3_lowestRows_8 : decode cX3_lowestRows 8 = .ok (.imul, 1) := by decide +kernel
theorem dX3_lowestRows_9 : decode cX3_lowestRows 9 = .ok (.ishl, 1) := by decide +kernel
theorem dX3_lowestRows_10 : decode cX3_lowestRows 10 = .ok (.iand, 1) := by decide +kernel
theorem dX3_lowestRows_11 : decode cX3_lowestRows 11 = .ok (.ireturn, 1) := by decide +kernel
abbrev A3_lowestRows (G : GG) (Q : Int32 → MM → Prop) := AW G E0 (MZ G (qI Q)) (WY yX3_lowestRows cX3_lowestRows 1 (some .int)) RX3 cX3_lowestRows 1 (some .int) ({ frames := 0, cells := 0, slots := 0, locals := 0 } : Room) 0 0
def D3_lowestRows (x0 : Int32) (M : MM) (Q : Int32 → MM → Prop) : Prop := Q ((33554431 : Int32) &&& ((33554431 : Int32) <<< (((5 : Int32) * ((5 : Int32) - x0)) &&& 31))) M
set_option maxHeartbeats 4000000 in
set_option maxRecDepth 100000 in
theorem s3_lowestRows {G : GG} {x0 : Int32} {M : MM} {Q : Int32 → MM → Prop} (h : D3_lowestRows x0 M Q) : CM G yX3_lowestRows (WY yX3_lowestRows cX3_lowestRows 1 (some .int)) 0 0 [.int x0] M (qI Q) := by
  refine CM.of (cc := cX3_lowestRows) (nL := 1) (ret := (some .int)) (own := RX3) (by decide +kernel) rfl rfl (Nat.le_of_ble_eq_true rfl) ?_
  show A3_lowestRows G Q 0 [(0, .int x0)] [] M
  unfold D3_lowestRows at h
  refine a_ldc dX3_lowestRows_0 (tbc _ kK_RX3_26) ?_
  refine a_ldc dX3_lowestRows_2 (tbc _ kK_RX3_26) ?_
  refine a_iconst (v := 5) dX3_lowestRows_4 (by decide) ?_
  refine a_iconst (v := 5) dX3_lowestRows_5 (by decide) ?_
  refine a_iload_n dX3_lowestRows_6 0 rfl ?_
  refine a_isub dX3_lowestRows_7 ?_
  refine a_imul dX3_lowestRows_8 ?_
  refine a_ishl dX3_lowestRows_9 ?_
  refine a_iand dX3_lowestRows_10 ?_
  exact a_iret dX3_lowestRows_11 ⟨_, rfl, h⟩

/-! X1_stopsSea -/
theorem dX1_stopsSea_0 : decode cX1_stopsSea 0 = .ok (.iload_n 0, 1) := by decide +kernel
theorem dX1_stopsSea_1 : decode cX1_stopsSea 1 = .ok (.iconst 2, 1) := by decide +kernel
theorem dX1_stopsSea_2 : decode cX1_stopsSea 2 = .ok (.if_icmp .eq 7, 3) := by decide +kernel
theorem dX1_stopsSea_5 : decode cX1_stopsSea 5 = .ok (.iconst 1, 1) := by decide +kernel
theorem dX1_stopsSea_6 : decode cX1_stopsSea 6 = .ok (.goto 4, 3) := by decide +kernel
theorem dX1_stopsSea_9 : decode cX1_stopsSea 9 = .ok (.iconst 0, 1) := by decide +kernel
theorem dX1_stopsSea_10 : decode cX1_stopsSea 10 = .ok (.ireturn, 1) := by decide +kernel
abbrev A1_stopsSea (G : GG) (Q : Int32 → MM → Prop) := AW G E0 (MZ G (qI Q)) (WY yX1_stopsSea cX1_stopsSea 1 (some .boolean)) RX1 cX1_stopsSea 1 (some .boolean) ({ frames := 0, cells := 0, slots := 0, locals := 0 } : Room) 0 0
def D1_stopsSea (x0 : Int32) (M : MM) (Q : Int32 → MM → Prop) : Prop := ((x0 = (2 : Int32) → Q (0 : Int32) M) ∧ (¬ x0 = (2 : Int32) → Q (1 : Int32) M))
set_option maxHeartbeats 4000000 in
set_option maxRecDepth 100000 in
theorem s1_stopsSea {G : GG} {x0 : Int32} {M : MM} {Q : Int32 → MM → Prop} (h : D1_stopsSea x0 M Q) : CM G yX1_stopsSea (WY yX1_stopsSea cX1_stopsSea 1 (some .boolean)) 0 0 [.int x0] M (qI Q) := by
  refine CM.of (cc := cX1_stopsSea) (nL := 1) (ret := (some .boolean)) (own := RX1) (by decide +kernel) rfl rfl (Nat.le_of_ble_eq_true rfl) ?_
  show A1_stopsSea G Q 0 [(0, .int x0)] [] M
  unfold D1_stopsSea at h
  refine a_iload_n dX1_stopsSea_0 0 rfl ?_
  refine a_iconst (v := 2) dX1_stopsSea_1 (by decide) ?_
  refine a_icmp_eq (tgt := 9) dX1_stopsSea_2 (by decide) (fun c => ?_) (fun c => ?_)
  · have h := h.1 c
    refine a_iconst (v := 0) dX1_stopsSea_9 (by decide) ?_
    exact a_zret dX1_stopsSea_10 (Or.inl rfl) ⟨_, rfl, h⟩
  · have h := h.2 c
    refine a_iconst (v := 1) dX1_stopsSea_5 (by decide) ?_
    refine a_goto (tgt := 10) dX1_stopsSea_6 (by decide) ?_
    exact a_zret dX1_stopsSea_10 (Or.inr rfl) ⟨_, rfl, h⟩

/-! X1_letsFor -/
theorem dX1_letsFor_0 : decode cX1_letsFor 0 = .ok (.iload_n 1, 1) := by decide +kernel
theorem dX1_letsFor_1 : decode cX1_letsFor 1 = .ok (.iconst 5, 1) := by decide +kernel
theorem dX1_letsFor_2 : decode cX1_letsFor 2 = .ok (.iadd, 1) := by decide +kernel
theorem dX1_letsFor_3 : decode cX1_letsFor 3 = .ok (.istore_n 2, 1) := by decide +kernel
theorem dX1_letsFor_4 : decode cX1_letsFor 4 = .ok (.iload_n 0, 1) := by decide +kernel
theorem dX1_letsFor_5 : decode cX1_letsFor 5 = .ok (.tableswitch 46 0 4 #[35, 37, 39, 41, 43], 35) := by decide +kernel
theorem dX1_letsFor_40 : decode cX1_letsFor 40 = .ok (.iconst 0, 1) := by decide +kernel
theorem dX1_letsFor_41 : decode cX1_letsFor 41 = .ok (.ireturn, 1) := by decide +kernel
theorem dX1_letsFor_42 : decode cX1_letsFor 42 = .ok (.iload_n 1, 1) := by decide +kernel
theorem dX1_letsFor_43 : decode cX1_letsFor 43 = .ok (.ireturn, 1) := by decide +kernel
theorem dX1_letsFor_44 : decode cX1_letsFor 44 = .ok (.iconst 0, 1) := by decide +kernel
theorem dX1_letsFor_45 : decode cX1_letsFor 45 = .ok (.ireturn, 1) := by decide +kernel
theorem dX1_letsFor_46 : decode cX1_letsFor 46 = .ok (.iload_n 2, 1) := by decide +kernel
theorem dX1_letsFor_47 : decode cX1_letsFor 47 = .ok (.ireturn, 1) := by decide +kernel
theorem dX1_letsFor_48 : decode cX1_letsFor 48 = .ok (.bipush 7, 2) := by decide +kernel
theorem dX1_letsFor_50 : decode cX1_letsFor 50 = .ok (.ireturn, 1) := by decide +kernel
theorem dX1_letsFor_51 : decode cX1_letsFor 51 = .ok (.iload_n 2, 1) := by decide +kernel
theorem dX1_letsFor_52 : decode cX1_letsFor 52 = .ok (.iload_n 1, 1) := by decide +kernel
theorem dX1_letsFor_53 : decode cX1_letsFor 53 = .ok (.iadd, 1) := by decide +kernel
theorem dX1_letsFor_54 : decode cX1_letsFor 54 = .ok (.ireturn, 1) := by decide +kernel
abbrev A1_letsFor (G : GG) (Q : Int32 → MM → Prop) := AW G E0 (MZ G (qI Q)) (WY yX1_letsFor cX1_letsFor 3 (some .int)) RX1 cX1_letsFor 3 (some .int) ({ frames := 0, cells := 0, slots := 0, locals := 0 } : Room) 0 0
def D1_letsFor (x0 : Int32) (x1 : Int32) (M : MM) (Q : Int32 → MM → Prop) : Prop := (fun v1 : Int32 => ((x0 = 0 → Q (0 : Int32) M) ∧ (¬ x0 = 0 → ((x0 = 1 → Q x1 M) ∧ (¬ x0 = 1 → ((x0 = 2 → Q (0 : Int32) M) ∧ (¬ x0 = 2 → ((x0 = 3 → Q v1 M) ∧ (¬ x0 = 3 → ((x0 = 4 → Q (7 : Int32) M) ∧ (¬ x0 = 4 → Q (v1 + x1) M))))))))))) (x1 + (5 : Int32))
set_option maxHeartbeats 4000000 in
set_option maxRecDepth 100000 in
theorem s1_letsFor {G : GG} {x0 : Int32} {x1 : Int32} {M : MM} {Q : Int32 → MM → Prop} (h : D1_letsFor x0 x1 M Q) : CM G yX1_letsFor (WY yX1_letsFor cX1_letsFor 3 (some .int)) 0 0 [.int x0, .int x1] M (qI Q) := by
  refine CM.of (cc := cX1_letsFor) (nL := 3) (ret := (some .int)) (own := RX1) (by decide +kernel) rfl rfl (Nat.le_of_ble_eq_true rfl) ?_
  show A1_letsFor G Q 0 [(0, .int x0), (1, .int x1)] [] M
  unfold D1_letsFor at h
  refine a_iload_n dX1_letsFor_0 1 rfl ?_
  refine a_iconst (v := 5) dX1_letsFor_1 (by decide) ?_
  refine a_iadd dX1_letsFor_2 ?_
  refine a_istore_n (i := 2) (L' := [(2, .int _), (0, .int _), (1, .int _)]) dX1_letsFor_3 rfl (by decide) rfl ?_
  refine a_iload_n dX1_letsFor_4 1 rfl ?_
  refine em_c h (fun c0 h => ?_) (fun c0 h => ?_)
  · refine a_tableIn (off := 35) (tgt := 40) dX1_letsFor_5 (by rw [c0]; decide) (by rw [c0]; decide) (by rw [c0]; rfl) (by decide) ?_
    refine a_iconst (v := 0) dX1_letsFor_40 (by decide) ?_
    exact a_iret dX1_letsFor_41 ⟨_, rfl, h⟩
  · refine em_c h (fun c1 h => ?_) (fun c1 h => ?_)
    · refine a_tableIn (off := 37) (tgt := 42) dX1_letsFor_5 (by rw [c1]; decide) (by rw [c1]; decide) (by rw [c1]; rfl) (by decide) ?_
      refine a_iload_n dX1_letsFor_42 2 rfl ?_
      exact a_iret dX1_letsFor_43 ⟨_, rfl, h⟩
    · refine em_c h (fun c2 h => ?_) (fun c2 h => ?_)
      · refine a_tableIn (off := 39) (tgt := 44) dX1_letsFor_5 (by rw [c2]; decide) (by rw [c2]; decide) (by rw [c2]; rfl) (by decide) ?_
        refine a_iconst (v := 0) dX1_letsFor_44 (by decide) ?_
        exact a_iret dX1_letsFor_45 ⟨_, rfl, h⟩
      · refine em_c h (fun c3 h => ?_) (fun c3 h => ?_)
        · refine a_tableIn (off := 41) (tgt := 46) dX1_letsFor_5 (by rw [c3]; decide) (by rw [c3]; decide) (by rw [c3]; rfl) (by decide) ?_
          refine a_iload_n dX1_letsFor_46 0 rfl ?_
          exact a_iret dX1_letsFor_47 ⟨_, rfl, h⟩
        · refine em_c h (fun c4 h => ?_) (fun c4 h => ?_)
          · refine a_tableIn (off := 43) (tgt := 48) dX1_letsFor_5 (by rw [c4]; decide) (by rw [c4]; decide) (by rw [c4]; rfl) (by decide) ?_
            refine a_bipush (v := 7) dX1_letsFor_48 (by decide) ?_
            exact a_iret dX1_letsFor_50 ⟨_, rfl, h⟩
          · refine a_tableD (tgt := 51) dX1_letsFor_5 (by decide) (fun k h1 h2 e => by have hk : k = 0 ∨ k = 1 ∨ k = 2 ∨ k = 3 ∨ k = 4 := (by omega); rcases hk with rfl | rfl | rfl | rfl | rfl <;> first | rfl | exact absurd e (ne_ti c0 (by decide)) | exact absurd e (ne_ti c1 (by decide)) | exact absurd e (ne_ti c2 (by decide)) | exact absurd e (ne_ti c3 (by decide)) | exact absurd e (ne_ti c4 (by decide))) ?_
            refine a_iload_n dX1_letsFor_51 0 rfl ?_
            refine a_iload_n dX1_letsFor_52 2 rfl ?_
            refine a_iadd dX1_letsFor_53 ?_
            exact a_iret dX1_letsFor_54 ⟨_, rfl, h⟩

/-! X1_rateFor -/
theorem dX1_rateFor_0 : decode cX1_rateFor 0 = .ok (.iload_n 1, 1) := by decide +kernel
theorem dX1_rateFor_1 : decode cX1_rateFor 1 = .ok (.bipush 10, 2) := by decide +kernel
theorem dX1_rateFor_3 : decode cX1_rateFor 3 = .ok (.iadd, 1) := by decide +kernel
theorem dX1_rateFor_4 : decode cX1_rateFor 4 = .ok (.istore_n 2, 1) := by decide +kernel
theorem dX1_rateFor_5 : decode cX1_rateFor 5 = .ok (.iconst 3, 1) := by decide +kernel
theorem dX1_rateFor_6 : decode cX1_rateFor 6 = .ok (.iload_n 2, 1) := by decide +kernel
theorem dX1_rateFor_7 : decode cX1_rateFor 7 = .ok (.imul, 1) := by decide +kernel
theorem dX1_rateFor_8 : decode cX1_rateFor 8 = .ok (.bipush 10, 2) := by decide +kernel
theorem dX1_rateFor_10 : decode cX1_rateFor 10 = .ok (.isub, 1) := by decide +kernel
theorem dX1_rateFor_11 : decode cX1_rateFor 11 = .ok (.istore_n 3, 1) := by decide +kernel
theorem dX1_rateFor_12 : decode cX1_rateFor 12 = .ok (.iload_n 0, 1) := by decide +kernel
theorem dX1_rateFor_13 : decode cX1_rateFor 13 = .ok (.tableswitch 46 0 4 #[35, 37, 39, 41, 43], 35) := by decide +kernel
theorem dX1_rateFor_48 : decode cX1_rateFor 48 = .ok (.iload_n 1, 1) := by decide +kernel
theorem dX1_rateFor_49 : decode cX1_rateFor 49 = .ok (.ireturn, 1) := by decide +kernel
theorem dX1_rateFor_50 : decode cX1_rateFor 50 = .ok (.iload_n 2, 1) := by decide +kernel
theorem dX1_rateFor_51 : decode cX1_rateFor 51 = .ok (.ireturn, 1) := by decide +kernel
theorem dX1_rateFor_52 : decode cX1_rateFor 52 = .ok (.iconst 5, 1) := by decide +kernel
theorem dX1_rateFor_53 : decode cX1_rateFor 53 = .ok (.ireturn, 1) := by decide +kernel
theorem dX1_rateFor_54 : decode cX1_rateFor 54 = .ok (.iload_n 3, 1) := by decide +kernel
theorem dX1_rateFor_55 : decode cX1_rateFor 55 = .ok (.ireturn, 1) := by decide +kernel
theorem dX1_rateFor_56 : decode cX1_rateFor 56 = .ok (.bipush 20, 2) := by decide +kernel
theorem dX1_rateFor_58 : decode cX1_rateFor 58 = .ok (.ireturn, 1) := by decide +kernel
theorem dX1_rateFor_59 : decode cX1_rateFor 59 = .ok (.iconst 2, 1) := by decide +kernel
theorem dX1_rateFor_60 : decode cX1_rateFor 60 = .ok (.iload_n 3, 1) := by decide +kernel
theorem dX1_rateFor_61 : decode cX1_rateFor 61 = .ok (.imul, 1) := by decide +kernel
theorem dX1_rateFor_62 : decode cX1_rateFor 62 = .ok (.ireturn, 1) := by decide +kernel
abbrev A1_rateFor (G : GG) (Q : Int32 → MM → Prop) := AW G E0 (MZ G (qI Q)) (WY yX1_rateFor cX1_rateFor 4 (some .int)) RX1 cX1_rateFor 4 (some .int) ({ frames := 0, cells := 0, slots := 0, locals := 0 } : Room) 0 0
def D1_rateFor (x0 : Int32) (x1 : Int32) (M : MM) (Q : Int32 → MM → Prop) : Prop := (fun v1 : Int32 => (fun v2 : Int32 => ((x0 = 0 → Q x1 M) ∧ (¬ x0 = 0 → ((x0 = 1 → Q v1 M) ∧ (¬ x0 = 1 → ((x0 = 2 → Q (5 : Int32) M) ∧ (¬ x0 = 2 → ((x0 = 3 → Q v2 M) ∧ (¬ x0 = 3 → ((x0 = 4 → Q (20 : Int32) M) ∧ (¬ x0 = 4 → Q ((2 : Int32) * v2) M))))))))))) (((3 : Int32) * v1) - (10 : Int32))) (x1 + (10 : Int32))
set_option maxHeartbeats 4000000 in
set_option maxRecDepth 100000 in
theorem s1_rateFor {G : GG} {x0 : Int32} {x1 : Int32} {M : MM} {Q : Int32 → MM → Prop} (h : D1_rateFor x0 x1 M Q) : CM G yX1_rateFor (WY yX1_rateFor cX1_rateFor 4 (some .int)) 0 0 [.int x0, .int x1] M (qI Q) := by
  refine CM.of (cc := cX1_rateFor) (nL := 4) (ret := (some .int)) (own := RX1) (by decide +kernel) rfl rfl (Nat.le_of_ble_eq_true rfl) ?_
  show A1_rateFor G Q 0 [(0, .int x0), (1, .int x1)] [] M
  unfold D1_rateFor at h
  refine a_iload_n dX1_rateFor_0 1 rfl ?_
  refine a_bipush (v := 10) dX1_rateFor_1 (by decide) ?_
  refine a_iadd dX1_rateFor_3 ?_
  refine a_istore_n (i := 2) (L' := [(2, .int _), (0, .int _), (1, .int _)]) dX1_rateFor_4 rfl (by decide) rfl ?_
  refine a_iconst (v := 3) dX1_rateFor_5 (by decide) ?_
  refine a_iload_n dX1_rateFor_6 0 rfl ?_
  refine a_imul dX1_rateFor_7 ?_
  refine a_bipush (v := 10) dX1_rateFor_8 (by decide) ?_
  refine a_isub dX1_rateFor_10 ?_
  refine a_istore_n (i := 3) (L' := [(3, .int _), (2, .int _), (0, .int _), (1, .int _)]) dX1_rateFor_11 rfl (by decide) rfl ?_
  refine a_iload_n dX1_rateFor_12 2 rfl ?_
  refine em_c h (fun c0 h => ?_) (fun c0 h => ?_)
  · refine a_tableIn (off := 35) (tgt := 48) dX1_rateFor_13 (by rw [c0]; decide) (by rw [c0]; decide) (by rw [c0]; rfl) (by decide) ?_
    refine a_iload_n dX1_rateFor_48 3 rfl ?_
    exact a_iret dX1_rateFor_49 ⟨_, rfl, h⟩
  · refine em_c h (fun c1 h => ?_) (fun c1 h => ?_)
    · refine a_tableIn (off := 37) (tgt := 50) dX1_rateFor_13 (by rw [c1]; decide) (by rw [c1]; decide) (by rw [c1]; rfl) (by decide) ?_
      refine a_iload_n dX1_rateFor_50 1 rfl ?_
      exact a_iret dX1_rateFor_51 ⟨_, rfl, h⟩
    · refine em_c h (fun c2 h => ?_) (fun c2 h => ?_)
      · refine a_tableIn (off := 39) (tgt := 52) dX1_rateFor_13 (by rw [c2]; decide) (by rw [c2]; decide) (by rw [c2]; rfl) (by decide) ?_
        refine a_iconst (v := 5) dX1_rateFor_52 (by decide) ?_
        exact a_iret dX1_rateFor_53 ⟨_, rfl, h⟩
      · refine em_c h (fun c3 h => ?_) (fun c3 h => ?_)
        · refine a_tableIn (off := 41) (tgt := 54) dX1_rateFor_13 (by rw [c3]; decide) (by rw [c3]; decide) (by rw [c3]; rfl) (by decide) ?_
          refine a_iload_n dX1_rateFor_54 0 rfl ?_
          exact a_iret dX1_rateFor_55 ⟨_, rfl, h⟩
        · refine em_c h (fun c4 h => ?_) (fun c4 h => ?_)
          · refine a_tableIn (off := 43) (tgt := 56) dX1_rateFor_13 (by rw [c4]; decide) (by rw [c4]; decide) (by rw [c4]; rfl) (by decide) ?_
            refine a_bipush (v := 20) dX1_rateFor_56 (by decide) ?_
            exact a_iret dX1_rateFor_58 ⟨_, rfl, h⟩
          · refine a_tableD (tgt := 59) dX1_rateFor_13 (by decide) (fun k h1 h2 e => by have hk : k = 0 ∨ k = 1 ∨ k = 2 ∨ k = 3 ∨ k = 4 := (by omega); rcases hk with rfl | rfl | rfl | rfl | rfl <;> first | rfl | exact absurd e (ne_ti c0 (by decide)) | exact absurd e (ne_ti c1 (by decide)) | exact absurd e (ne_ti c2 (by decide)) | exact absurd e (ne_ti c3 (by decide)) | exact absurd e (ne_ti c4 (by decide))) ?_
            refine a_iconst (v := 2) dX1_rateFor_59 (by decide) ?_
            refine a_iload_n dX1_rateFor_60 0 rfl ?_
            refine a_imul dX1_rateFor_61 ?_
            exact a_iret dX1_rateFor_62 ⟨_, rfl, h⟩

/-! X1_holdsFor -/
theorem dX1_holdsFor_0 : decode cX1_holdsFor 0 = .ok (.iload_n 1, 1) := by decide +kernel
theorem dX1_holdsFor_1 : decode cX1_holdsFor 1 = .ok (.iconst 3, 1) := by decide +kernel
theorem dX1_holdsFor_2 : decode cX1_holdsFor 2 = .ok (.idiv, 1) := by decide +kernel
theorem dX1_holdsFor_3 : decode cX1_holdsFor 3 = .ok (.iconst 1, 1) := by decide +kernel
theorem dX1_holdsFor_4 : decode cX1_holdsFor 4 = .ok (.iadd, 1) := by decide +kernel
theorem dX1_holdsFor_5 : decode cX1_holdsFor 5 = .ok (.istore_n 2, 1) := by decide +kernel
theorem dX1_holdsFor_6 : decode cX1_holdsFor 6 = .ok (.iload_n 2, 1) := by decide +kernel
theorem dX1_holdsFor_7 : decode cX1_holdsFor 7 = .ok (.iconst 1, 1) := by decide +kernel
theorem dX1_holdsFor_8 : decode cX1_holdsFor 8 = .ok (.iadd, 1) := by decide +kernel
theorem dX1_holdsFor_9 : decode cX1_holdsFor 9 = .ok (.istore_n 3, 1) := by decide +kernel
theorem dX1_holdsFor_10 : decode cX1_holdsFor 10 = .ok (.iconst 2, 1) := by decide +kernel
theorem dX1_holdsFor_11 : decode cX1_holdsFor 11 = .ok (.iload_n 3, 1) := by decide +kernel
theorem dX1_holdsFor_12 : decode cX1_holdsFor 12 = .ok (.imul, 1) := by decide +kernel
theorem dX1_holdsFor_13 : decode cX1_holdsFor 13 = .ok (.istore 4, 2) := by decide +kernel
theorem dX1_holdsFor_15 : decode cX1_holdsFor 15 = .ok (.iload_n 0, 1) := by decide +kernel
theorem dX1_holdsFor_16 : decode cX1_holdsFor 16 = .ok (.tableswitch 49 0 4 #[36, 38, 40, 44, 47], 36) := by decide +kernel
theorem dX1_holdsFor_52 : decode cX1_holdsFor 52 = .ok (.iload_n 2, 1) := by decide +kernel
theorem dX1_holdsFor_53 : decode cX1_holdsFor 53 = .ok (.ireturn, 1) := by decide +kernel
theorem dX1_holdsFor_54 : decode cX1_holdsFor 54 = .ok (.iload_n 3, 1) := by decide +kernel
theorem dX1_holdsFor_55 : decode cX1_holdsFor 55 = .ok (.ireturn, 1) := by decide +kernel
theorem dX1_holdsFor_56 : decode cX1_holdsFor 56 = .ok (.iload_n 1, 1) := by decide +kernel
theorem dX1_holdsFor_57 : decode cX1_holdsFor 57 = .ok (.iconst 2, 1) := by decide +kernel
theorem dX1_holdsFor_58 : decode cX1_holdsFor 58 = .ok (.iadd, 1) := by decide +kernel
theorem dX1_holdsFor_59 : decode cX1_holdsFor 59 = .ok (.ireturn, 1) := by decide +kernel
theorem dX1_holdsFor_60 : decode cX1_holdsFor 60 = .ok (.iload 4, 2) := by decide +kernel
theorem dX1_holdsFor_62 : decode cX1_holdsFor 62 = .ok (.ireturn, 1) := by decide +kernel
theorem dX1_holdsFor_63 : decode cX1_holdsFor 63 = .ok (.iload_n 3, 1) := by decide +kernel
theorem dX1_holdsFor_64 : decode cX1_holdsFor 64 = .ok (.ireturn, 1) := by decide +kernel
theorem dX1_holdsFor_65 : decode cX1_holdsFor 65 = .ok (.iload 4, 2) := by decide +kernel
theorem dX1_holdsFor_67 : decode cX1_holdsFor 67 = .ok (.iconst 1, 1) := by decide +kernel
theorem dX1_holdsFor_68 : decode cX1_holdsFor 68 = .ok (.isub, 1) := by decide +kernel
theorem dX1_holdsFor_69 : decode cX1_holdsFor 69 = .ok (.ireturn, 1) := by decide +kernel
abbrev A1_holdsFor (G : GG) (Q : Int32 → MM → Prop) := AW G E0 (MZ G (qI Q)) (WY yX1_holdsFor cX1_holdsFor 5 (some .int)) RX1 cX1_holdsFor 5 (some .int) ({ frames := 0, cells := 0, slots := 0, locals := 0 } : Room) 0 0
def D1_holdsFor (x0 : Int32) (x1 : Int32) (M : MM) (Q : Int32 → MM → Prop) : Prop := (fun v1 : Int32 => (fun v2 : Int32 => (fun v3 : Int32 => ((x0 = 0 → Q v1 M) ∧ (¬ x0 = 0 → ((x0 = 1 → Q v2 M) ∧ (¬ x0 = 1 → ((x0 = 2 → Q (x1 + (2 : Int32)) M) ∧ (¬ x0 = 2 → ((x0 = 3 → Q v3 M) ∧ (¬ x0 = 3 → ((x0 = 4 → Q v2 M) ∧ (¬ x0 = 4 → Q (v3 - (1 : Int32)) M))))))))))) ((2 : Int32) * v2)) (v1 + (1 : Int32))) ((x1 / (3 : Int32)) + (1 : Int32))
set_option maxHeartbeats 4000000 in
set_option maxRecDepth 100000 in
theorem s1_holdsFor {G : GG} {x0 : Int32} {x1 : Int32} {M : MM} {Q : Int32 → MM → Prop} (h : D1_holdsFor x0 x1 M Q) : CM G yX1_holdsFor (WY yX1_holdsFor cX1_holdsFor 5 (some .int)) 0 0 [.int x0, .int x1] M (qI Q) := by
  refine CM.of (cc := cX1_holdsFor) (nL := 5) (ret := (some .int)) (own := RX1) (by decide +kernel) rfl rfl (Nat.le_of_ble_eq_true rfl) ?_
  show A1_holdsFor G Q 0 [(0, .int x0), (1, .int x1)] [] M
  unfold D1_holdsFor at h
  refine a_iload_n dX1_holdsFor_0 1 rfl ?_
  refine a_iconst (v := 3) dX1_holdsFor_1 (by decide) ?_
  refine a_idiv dX1_holdsFor_2 (by decide) ?_
  refine a_iconst (v := 1) dX1_holdsFor_3 (by decide) ?_
  refine a_iadd dX1_holdsFor_4 ?_
  refine a_istore_n (i := 2) (L' := [(2, .int _), (0, .int _), (1, .int _)]) dX1_holdsFor_5 rfl (by decide) rfl ?_
  refine a_iload_n dX1_holdsFor_6 0 rfl ?_
  refine a_iconst (v := 1) dX1_holdsFor_7 (by decide) ?_
  refine a_iadd dX1_holdsFor_8 ?_
  refine a_istore_n (i := 3) (L' := [(3, .int _), (2, .int _), (0, .int _), (1, .int _)]) dX1_holdsFor_9 rfl (by decide) rfl ?_
  refine a_iconst (v := 2) dX1_holdsFor_10 (by decide) ?_
  refine a_iload_n dX1_holdsFor_11 0 rfl ?_
  refine a_imul dX1_holdsFor_12 ?_
  refine a_istore (i := 4) (L' := [(4, .int _), (3, .int _), (2, .int _), (0, .int _), (1, .int _)]) dX1_holdsFor_13 (by decide) rfl ?_
  refine a_iload_n dX1_holdsFor_15 3 rfl ?_
  refine em_c h (fun c0 h => ?_) (fun c0 h => ?_)
  · refine a_tableIn (off := 36) (tgt := 52) dX1_holdsFor_16 (by rw [c0]; decide) (by rw [c0]; decide) (by rw [c0]; rfl) (by decide) ?_
    refine a_iload_n dX1_holdsFor_52 2 rfl ?_
    exact a_iret dX1_holdsFor_53 ⟨_, rfl, h⟩
  · refine em_c h (fun c1 h => ?_) (fun c1 h => ?_)
    · refine a_tableIn (off := 38) (tgt := 54) dX1_holdsFor_16 (by rw [c1]; decide) (by rw [c1]; decide) (by rw [c1]; rfl) (by decide) ?_
      refine a_iload_n dX1_holdsFor_54 1 rfl ?_
      exact a_iret dX1_holdsFor_55 ⟨_, rfl, h⟩
    · refine em_c h (fun c2 h => ?_) (fun c2 h => ?_)
      · refine a_tableIn (off := 40) (tgt := 56) dX1_holdsFor_16 (by rw [c2]; decide) (by rw [c2]; decide) (by rw [c2]; rfl) (by decide) ?_
        refine a_iload_n dX1_holdsFor_56 4 rfl ?_
        refine a_iconst (v := 2) dX1_holdsFor_57 (by decide) ?_
        refine a_iadd dX1_holdsFor_58 ?_
        exact a_iret dX1_holdsFor_59 ⟨_, rfl, h⟩
      · refine em_c h (fun c3 h => ?_) (fun c3 h => ?_)
        · refine a_tableIn (off := 44) (tgt := 60) dX1_holdsFor_16 (by rw [c3]; decide) (by rw [c3]; decide) (by rw [c3]; rfl) (by decide) ?_
          refine a_iload dX1_holdsFor_60 0 rfl ?_
          exact a_iret dX1_holdsFor_62 ⟨_, rfl, h⟩
        · refine em_c h (fun c4 h => ?_) (fun c4 h => ?_)
          · refine a_tableIn (off := 47) (tgt := 63) dX1_holdsFor_16 (by rw [c4]; decide) (by rw [c4]; decide) (by rw [c4]; rfl) (by decide) ?_
            refine a_iload_n dX1_holdsFor_63 1 rfl ?_
            exact a_iret dX1_holdsFor_64 ⟨_, rfl, h⟩
          · refine a_tableD (tgt := 65) dX1_holdsFor_16 (by decide) (fun k h1 h2 e => by have hk : k = 0 ∨ k = 1 ∨ k = 2 ∨ k = 3 ∨ k = 4 := (by omega); rcases hk with rfl | rfl | rfl | rfl | rfl <;> first | rfl | exact absurd e (ne_ti c0 (by decide)) | exact absurd e (ne_ti c1 (by decide)) | exact absurd e (ne_ti c2 (by decide)) | exact absurd e (ne_ti c3 (by decide)) | exact absurd e (ne_ti c4 (by decide))) ?_
            refine a_iload dX1_holdsFor_65 0 rfl ?_
            refine a_iconst (v := 1) dX1_holdsFor_67 (by decide) ?_
            refine a_isub dX1_holdsFor_68 ?_
            exact a_iret dX1_holdsFor_69 ⟨_, rfl, h⟩

/-! X3_steps -/
theorem dX3_steps_0 : decode cX3_steps 0 = .ok (.iload_n 0, 1) := by decide +kernel
theorem dX3_steps_1 : decode cX3_steps 1 = .ok (.iconst 5, 1) := by decide +kernel
theorem dX3_steps_2 : decode cX3_steps 2 = .ok (.idiv, 1) := by decide +kernel
theorem dX3_steps_3 : decode cX3_steps 3 = .ok (.iload_n 1, 1) := by decide +kernel
theorem dX3_steps_4 : decode cX3_steps 4 = .ok (.iconst 5, 1) := by decide +kernel
theorem dX3_steps_5 : decode cX3_steps 5 = .ok (.idiv, 1) := by decide +kernel
theorem dX3_steps_6 : decode cX3_steps 6 = .ok (.isub, 1) := by decide +kernel
theorem dX3_steps_7 : decode cX3_steps 7 = .ok (.invokestatic 17, 3) := by decide +kernel
theorem dX3_steps_10 : decode cX3_steps 10 = .ok (.iload_n 0, 1) := by decide +kernel
theorem dX3_steps_11 : decode cX3_steps 11 = .ok (.iconst 5, 1) := by decide +kernel
theorem dX3_steps_12 : decode cX3_steps 12 = .ok (.irem, 1) := by decide +kernel
theorem dX3_steps_13 : decode cX3_steps 13 = .ok (.iload_n 1, 1) := by decide +kernel
theorem dX3_steps_14 : decode cX3_steps 14 = .ok (.iconst 5, 1) := by decide +kernel
theorem dX3_steps_15 : decode cX3_steps 15 = .ok (.irem, 1) := by decide +kernel
theorem dX3_steps_16 : decode cX3_steps 16 = .ok (.isub, 1) := by decide +kernel
theorem dX3_steps_17 : decode cX3_steps 17 = .ok (.invokestatic 17, 3) := by decide +kernel
theorem dX3_steps_20 : decode cX3_steps 20 = .ok (.iadd, 1) := by decide +kernel
theorem dX3_steps_21 : decode cX3_steps 21 = .ok (.ireturn, 1) := by decide +kernel
abbrev A3_steps (G : GG) (Q : Int32 → MM → Prop) := AW G E0 (MZ G (qI Q)) (WY yX3_steps cX3_steps 2 (some .int)) RX3 cX3_steps 2 (some .int) ({ frames := 1, cells := 0, slots := 0, locals := 21 } : Room) 0 0
def D3_steps (x0 : Int32) (x1 : Int32) (M : MM) (Q : Int32 → MM → Prop) : Prop := Q ((if 0 ≤ ((x0 / (5 : Int32)) - (x1 / (5 : Int32))) then ((x0 / (5 : Int32)) - (x1 / (5 : Int32))) else 0 - ((x0 / (5 : Int32)) - (x1 / (5 : Int32)))) + (if 0 ≤ ((x0 - x0 / (5 : Int32) * (5 : Int32)) - (x1 - x1 / (5 : Int32) * (5 : Int32))) then ((x0 - x0 / (5 : Int32) * (5 : Int32)) - (x1 - x1 / (5 : Int32) * (5 : Int32))) else 0 - ((x0 - x0 / (5 : Int32) * (5 : Int32)) - (x1 - x1 / (5 : Int32) * (5 : Int32))))) M
set_option maxHeartbeats 4000000 in
set_option maxRecDepth 100000 in
theorem s3_steps {G : GG} {x0 : Int32} {x1 : Int32} {M : MM} {Q : Int32 → MM → Prop} (h : D3_steps x0 x1 M Q) : CM G yX3_steps (WY yX3_steps cX3_steps 2 (some .int)) 1 21 [.int x0, .int x1] M (qI Q) := by
  refine CM.of (cc := cX3_steps) (nL := 2) (ret := (some .int)) (own := RX3) (by decide +kernel) rfl rfl (Nat.le_of_ble_eq_true rfl) ?_
  show A3_steps G Q 0 [(0, .int x0), (1, .int x1)] [] M
  unfold D3_steps at h
  refine a_iload_n dX3_steps_0 0 rfl ?_
  refine a_iconst (v := 5) dX3_steps_1 (by decide) ?_
  refine a_idiv dX3_steps_2 (by decide) ?_
  refine a_iload_n dX3_steps_3 1 rfl ?_
  refine a_iconst (v := 5) dX3_steps_4 (by decide) ?_
  refine a_idiv dX3_steps_5 (by decide) ?_
  refine a_isub dX3_steps_6 ?_
  refine a_mabs dX3_steps_7 (tbc _ kM_RX3_17_Lib_Math_abs_name) (tbc _ kT_Lib_Math_abs_name) (tbc _ kN_Math) (tbc _ kC_Lib_Math_abs_name) (Nat.le_of_ble_eq_true rfl) (Nat.le_of_ble_eq_true rfl) (Nat.le_refl 0) (Nat.le_refl 0) ?_
  refine a_iload_n dX3_steps_10 0 rfl ?_
  refine a_iconst (v := 5) dX3_steps_11 (by decide) ?_
  refine a_irem dX3_steps_12 (by decide) ?_
  refine a_iload_n dX3_steps_13 1 rfl ?_
  refine a_iconst (v := 5) dX3_steps_14 (by decide) ?_
  refine a_irem dX3_steps_15 (by decide) ?_
  refine a_isub dX3_steps_16 ?_
  refine a_mabs dX3_steps_17 (tbc _ kM_RX3_17_Lib_Math_abs_name) (tbc _ kT_Lib_Math_abs_name) (tbc _ kN_Math) (tbc _ kC_Lib_Math_abs_name) (Nat.le_of_ble_eq_true rfl) (Nat.le_of_ble_eq_true rfl) (Nat.le_refl 0) (Nat.le_refl 0) ?_
  refine a_iadd dX3_steps_20 ?_
  exact a_iret dX3_steps_21 ⟨_, rfl, h⟩

/-! X4_isKind -/
theorem dX4_isKind_0 : decode cX4_isKind 0 = .ok (.iload_n 0, 1) := by decide +kernel
theorem dX4_isKind_1 : decode cX4_isKind 1 = .ok (.ifCond .lt 13, 3) := by decide +kernel
theorem dX4_isKind_4 : decode cX4_isKind 4 = .ok (.iload_n 0, 1) := by decide +kernel
theorem dX4_isKind_5 : decode cX4_isKind 5 = .ok (.bipush 6, 2) := by decide +kernel
theorem dX4_isKind_7 : decode cX4_isKind 7 = .ok (.if_icmp .ge 7, 3) := by decide +kernel
theorem dX4_isKind_10 : decode cX4_isKind 10 = .ok (.iconst 1, 1) := by decide +kernel
theorem dX4_isKind_11 : decode cX4_isKind 11 = .ok (.goto 4, 3) := by decide +kernel
theorem dX4_isKind_14 : decode cX4_isKind 14 = .ok (.iconst 0, 1) := by decide +kernel
theorem dX4_isKind_15 : decode cX4_isKind 15 = .ok (.ireturn, 1) := by decide +kernel
abbrev A4_isKind (G : GG) (Q : Int32 → MM → Prop) := AW G E0 (MZ G (qI Q)) (WY yX4_isKind cX4_isKind 1 (some .boolean)) RX4 cX4_isKind 1 (some .boolean) ({ frames := 0, cells := 0, slots := 0, locals := 0 } : Room) 0 0
def D4_isKind (x0 : Int32) (M : MM) (Q : Int32 → MM → Prop) : Prop := ((x0 < 0 → Q (0 : Int32) M) ∧ (¬ x0 < 0 → (((6 : Int32) ≤ x0 → Q (0 : Int32) M) ∧ (¬ (6 : Int32) ≤ x0 → Q (1 : Int32) M))))
set_option maxHeartbeats 4000000 in
set_option maxRecDepth 100000 in
theorem s4_isKind {G : GG} {x0 : Int32} {M : MM} {Q : Int32 → MM → Prop} (h : D4_isKind x0 M Q) : CM G yX4_isKind (WY yX4_isKind cX4_isKind 1 (some .boolean)) 0 0 [.int x0] M (qI Q) := by
  refine CM.of (cc := cX4_isKind) (nL := 1) (ret := (some .boolean)) (own := RX4) (by decide +kernel) rfl rfl (Nat.le_of_ble_eq_true rfl) ?_
  show A4_isKind G Q 0 [(0, .int x0)] [] M
  unfold D4_isKind at h
  refine a_iload_n dX4_isKind_0 0 rfl ?_
  refine a_if_lt (tgt := 14) dX4_isKind_1 (by decide) (fun c => ?_) (fun c => ?_)
  · have h := h.1 c
    refine a_iconst (v := 0) dX4_isKind_14 (by decide) ?_
    exact a_zret dX4_isKind_15 (Or.inl rfl) ⟨_, rfl, h⟩
  · have h := h.2 c
    refine a_iload_n dX4_isKind_4 0 rfl ?_
    refine a_bipush (v := 6) dX4_isKind_5 (by decide) ?_
    refine a_icmp_ge (tgt := 14) dX4_isKind_7 (by decide) (fun c => ?_) (fun c => ?_)
    · have h := h.1 c
      refine a_iconst (v := 0) dX4_isKind_14 (by decide) ?_
      exact a_zret dX4_isKind_15 (Or.inl rfl) ⟨_, rfl, h⟩
    · have h := h.2 c
      refine a_iconst (v := 1) dX4_isKind_10 (by decide) ?_
      refine a_goto (tgt := 15) dX4_isKind_11 (by decide) ?_
      exact a_zret dX4_isKind_15 (Or.inr rfl) ⟨_, rfl, h⟩

/-! X4_isCell -/
theorem dX4_isCell_0 : decode cX4_isCell 0 = .ok (.iload_n 0, 1) := by decide +kernel
theorem dX4_isCell_1 : decode cX4_isCell 1 = .ok (.ifCond .lt 13, 3) := by decide +kernel
theorem dX4_isCell_4 : decode cX4_isCell 4 = .ok (.iload_n 0, 1) := by decide +kernel
theorem dX4_isCell_5 : decode cX4_isCell 5 = .ok (.bipush 25, 2) := by decide +kernel
theorem dX4_isCell_7 : decode cX4_isCell 7 = .ok (.if_icmp .ge 7, 3) := by decide +kernel
theorem dX4_isCell_10 : decode cX4_isCell 10 = .ok (.iconst 1, 1) := by decide +kernel
theorem dX4_isCell_11 : decode cX4_isCell 11 = .ok (.goto 4, 3) := by decide +kernel
theorem dX4_isCell_14 : decode cX4_isCell 14 = .ok (.iconst 0, 1) := by decide +kernel
theorem dX4_isCell_15 : decode cX4_isCell 15 = .ok (.ireturn, 1) := by decide +kernel
abbrev A4_isCell (G : GG) (Q : Int32 → MM → Prop) := AW G E0 (MZ G (qI Q)) (WY yX4_isCell cX4_isCell 1 (some .boolean)) RX4 cX4_isCell 1 (some .boolean) ({ frames := 0, cells := 0, slots := 0, locals := 0 } : Room) 0 0
def D4_isCell (x0 : Int32) (M : MM) (Q : Int32 → MM → Prop) : Prop := ((x0 < 0 → Q (0 : Int32) M) ∧ (¬ x0 < 0 → (((25 : Int32) ≤ x0 → Q (0 : Int32) M) ∧ (¬ (25 : Int32) ≤ x0 → Q (1 : Int32) M))))
set_option maxHeartbeats 4000000 in
set_option maxRecDepth 100000 in
theorem s4_isCell {G : GG} {x0 : Int32} {M : MM} {Q : Int32 → MM → Prop} (h : D4_isCell x0 M Q) : CM G yX4_isCell (WY yX4_isCell cX4_isCell 1 (some .boolean)) 0 0 [.int x0] M (qI Q) := by
  refine CM.of (cc := cX4_isCell) (nL := 1) (ret := (some .boolean)) (own := RX4) (by decide +kernel) rfl rfl (Nat.le_of_ble_eq_true rfl) ?_
  show A4_isCell G Q 0 [(0, .int x0)] [] M
  unfold D4_isCell at h
  refine a_iload_n dX4_isCell_0 0 rfl ?_
  refine a_if_lt (tgt := 14) dX4_isCell_1 (by decide) (fun c => ?_) (fun c => ?_)
  · have h := h.1 c
    refine a_iconst (v := 0) dX4_isCell_14 (by decide) ?_
    exact a_zret dX4_isCell_15 (Or.inl rfl) ⟨_, rfl, h⟩
  · have h := h.2 c
    refine a_iload_n dX4_isCell_4 0 rfl ?_
    refine a_bipush (v := 25) dX4_isCell_5 (by decide) ?_
    refine a_icmp_ge (tgt := 14) dX4_isCell_7 (by decide) (fun c => ?_) (fun c => ?_)
    · have h := h.1 c
      refine a_iconst (v := 0) dX4_isCell_14 (by decide) ?_
      exact a_zret dX4_isCell_15 (Or.inl rfl) ⟨_, rfl, h⟩
    · have h := h.2 c
      refine a_iconst (v := 1) dX4_isCell_10 (by decide) ?_
      refine a_goto (tgt := 15) dX4_isCell_11 (by decide) ?_
      exact a_zret dX4_isCell_15 (Or.inr rfl) ⟨_, rfl, h⟩
