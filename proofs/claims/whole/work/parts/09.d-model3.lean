/-! X5_feed -/
theorem dX5_feed_0 : decode cX5_feed 0 = .ok (.aload_n 0, 1) := by decide +kernel
theorem dX5_feed_1 : decode cX5_feed 1 = .ok (.iconst 0, 1) := by decide +kernel
theorem dX5_feed_2 : decode cX5_feed 2 = .ok (.putfield 73, 3) := by decide +kernel
theorem dX5_feed_5 : decode cX5_feed 5 = .ok (.iload_n 1, 1) := by decide +kernel
theorem dX5_feed_6 : decode cX5_feed 6 = .ok (.ifCond .ge 10, 3) := by decide +kernel
theorem dX5_feed_9 : decode cX5_feed 9 = .ok (.aload_n 0, 1) := by decide +kernel
theorem dX5_feed_10 : decode cX5_feed 10 = .ok (.bipush (-4), 2) := by decide +kernel
theorem dX5_feed_12 : decode cX5_feed 12 = .ok (.invokevirtual 149, 3) := by decide +kernel
theorem dX5_feed_15 : decode cX5_feed 15 = .ok (.ireturn, 1) := by decide +kernel
theorem dX5_feed_16 : decode cX5_feed 16 = .ok (.iload_n 1, 1) := by decide +kernel
theorem dX5_feed_17 : decode cX5_feed 17 = .ok (.sipush 255, 3) := by decide +kernel
theorem dX5_feed_20 : decode cX5_feed 20 = .ok (.if_icmp .gt 12, 3) := by decide +kernel
theorem dX5_feed_23 : decode cX5_feed 23 = .ok (.aload_n 0, 1) := by decide +kernel
theorem dX5_feed_24 : decode cX5_feed 24 = .ok (.getfield 152, 3) := by decide +kernel
theorem dX5_feed_27 : decode cX5_feed 27 = .ok (.bipush 96, 2) := by decide +kernel
theorem dX5_feed_29 : decode cX5_feed 29 = .ok (.if_icmp .ne 10, 3) := by decide +kernel
theorem dX5_feed_32 : decode cX5_feed 32 = .ok (.aload_n 0, 1) := by decide +kernel
theorem dX5_feed_33 : decode cX5_feed 33 = .ok (.bipush (-6), 2) := by decide +kernel
theorem dX5_feed_35 : decode cX5_feed 35 = .ok (.invokevirtual 149, 3) := by decide +kernel
theorem dX5_feed_38 : decode cX5_feed 38 = .ok (.ireturn, 1) := by decide +kernel
theorem dX5_feed_39 : decode cX5_feed 39 = .ok (.aload_n 0, 1) := by decide +kernel
theorem dX5_feed_40 : decode cX5_feed 40 = .ok (.getfield 34, 3) := by decide +kernel
theorem dX5_feed_43 : decode cX5_feed 43 = .ok (.aload_n 0, 1) := by decide +kernel
theorem dX5_feed_44 : decode cX5_feed 44 = .ok (.getfield 152, 3) := by decide +kernel
theorem dX5_feed_47 : decode cX5_feed 47 = .ok (.iload_n 1, 1) := by decide +kernel
theorem dX5_feed_48 : decode cX5_feed 48 = .ok (.iastore, 1) := by decide +kernel
theorem dX5_feed_49 : decode cX5_feed 49 = .ok (.aload_n 0, 1) := by decide +kernel
theorem dX5_feed_50 : decode cX5_feed 50 = .ok (.dup, 1) := by decide +kernel
theorem dX5_feed_51 : decode cX5_feed 51 = .ok (.getfield 152, 3) := by decide +kernel
theorem dX5_feed_54 : decode cX5_feed 54 = .ok (.iconst 1, 1) := by decide +kernel
theorem dX5_feed_55 : decode cX5_feed 55 = .ok (.iadd, 1) := by decide +kernel
theorem dX5_feed_56 : decode cX5_feed 56 = .ok (.putfield 152, 3) := by decide +kernel
theorem dX5_feed_59 : decode cX5_feed 59 = .ok (.aload_n 0, 1) := by decide +kernel
theorem dX5_feed_60 : decode cX5_feed 60 = .ok (.getfield 152, 3) := by decide +kernel
theorem dX5_feed_63 : decode cX5_feed 63 = .ok (.ireturn, 1) := by decide +kernel
abbrev A5_feed (G : GG) (Q : Int32 → MM → Prop) := AW G E0 (MZ G (qI Q)) (WY yX5_feed cX5_feed 2 (some .int)) RX5 cX5_feed 2 (some .int) ({ frames := 1, cells := 0, slots := 0, locals := 21 } : Room) 0 0
def D5_feed_c32 (Q : Int32 → MM → Prop) (M : MM) : Prop := D5_refuse (-6 : Int32) M (fun (r6 : Int32) (M7 : MM) => Q r6 M7)
def D5_feed (x1 : Int32) (M : MM) (Q : Int32 → MM → Prop) : Prop := (fun M1 : MM => ((0 ≤ x1 → (((255 : Int32) < x1 → D5_feed_c32 Q M1) ∧ (¬ (255 : Int32) < x1 → (((M1 62 17) ≠ (96 : Int32) → ib 71 (M1 62 17) ∧ (fun M2 : MM => (fun M3 : MM => Q (M3 62 17) M3) (up M2 62 17 ((M2 62 17) + (1 : Int32)))) (up M1 71 (ix (M1 62 17)) x1)) ∧ ((M1 62 17) = (96 : Int32) → D5_feed_c32 Q M1))))) ∧ (¬ 0 ≤ x1 → D5_refuse (-4 : Int32) M1 (fun (r4 : Int32) (M5 : MM) => Q r4 M5)))) (up M 62 9 (0 : Int32))
set_option maxHeartbeats 4000000 in
set_option maxRecDepth 100000 in
theorem s5_feed_c32 {G : GG} {Q : Int32 → MM → Prop} : ∀  (M : MM), D5_feed_c32 Q M → A5_feed G Q 32 [(0, .ref (gA G 62))] [] M := by
  intro  M h
  unfold D5_feed_c32 at h
  refine a_aload_n dX5_feed_32 0 rfl ?_
  refine a_bipush (v := -6) dX5_feed_33 (by decide) ?_
  refine a_callVi (n := 1) [.int _] (C := RX5) (ci := 3) (qc := (RX5, TX5, 40)) (fsF := fl3 G _) ob_62.1 (fun _ => en3 ob_62.2) rfl rfl dX5_feed_35 (s5_refuse h) (gV tbc kM_RX5_149_X5_refuse kI_X5_refuse kS_X5_refuse kN_RX5 kC_X5_refuse) rfl (by decide +kernel) ⟨Nat.le_of_ble_eq_true rfl, Nat.le_of_ble_eq_true rfl⟩ rfl rfl (Nat.le_of_ble_eq_true rfl) ⟨Nat.le_refl 0, Nat.le_refl 0⟩ (fun r M h => ?_)
  exact a_iret dX5_feed_38 ⟨_, rfl, h⟩
set_option maxHeartbeats 4000000 in
set_option maxRecDepth 100000 in
theorem s5_feed {G : GG} {x1 : Int32} {M : MM} {Q : Int32 → MM → Prop} (h : D5_feed x1 M Q) : CM G yX5_feed (WY yX5_feed cX5_feed 2 (some .int)) 1 21 [.ref (gA G 62), .int x1] M (qI Q) := by
  refine CM.of (cc := cX5_feed) (nL := 2) (ret := (some .int)) (own := RX5) (by decide +kernel) rfl rfl (Nat.le_of_ble_eq_true rfl) ?_
  show A5_feed G Q 0 [(0, .ref (gA G 62)), (1, .int x1)] [] M
  unfold D5_feed at h
  refine a_aload_n dX5_feed_0 0 rfl ?_
  refine a_iconst (v := 0) dX5_feed_1 (by decide) ?_
  refine a_put3 dX5_feed_2 9 (by decide) (tbc _ kF_RX5_73) (fun w h => tbc _ (uW3 w h)) rfl rfl rfl rfl ob_62 fs3_9 ?_
  refine a_iload_n dX5_feed_5 1 rfl ?_
  refine a_if_ge (tgt := 16) dX5_feed_6 (by decide) (fun c => ?_) (fun c => ?_)
  · have h := h.1 c
    refine a_iload_n dX5_feed_16 1 rfl ?_
    refine a_sipush (v := 255) dX5_feed_17 (by decide) ?_
    refine a_icmp_gt (tgt := 32) dX5_feed_20 (by decide) (fun c => ?_) (fun c => ?_)
    · have h := h.1 c
      refine a_sub [0] rfl ?_
      exact s5_feed_c32 _ h
    · have h := h.2 c
      refine a_aload_n dX5_feed_23 0 rfl ?_
      refine a_get3 dX5_feed_24 17 (by decide) (tbc _ kF_RX5_152) (fun w h => tbc _ (uW3 w h)) rfl ob_62 rfl ?_
      refine a_bipush (v := 96) dX5_feed_27 (by decide) ?_
      refine a_icmp_ne (tgt := 39) dX5_feed_29 (by decide) (fun c => ?_) (fun c => ?_)
      · have h := h.1 c
        refine a_aload_n dX5_feed_39 0 rfl ?_
        refine a_get3 dX5_feed_40 16 (by decide) (tbc _ kF_RX5_34) (fun w h => tbc _ (uW3 w h)) rfl ob_62 rfl ?_
        refine a_aload_n dX5_feed_43 0 rfl ?_
        refine a_get3 dX5_feed_44 17 (by decide) (tbc _ kF_RX5_152) (fun w h => tbc _ (uW3 w h)) rfl ob_62 rfl ?_
        refine a_iload_n dX5_feed_47 1 rfl ?_
        refine a_iast dX5_feed_48 h.1 ?_
        have h := h.2
        refine a_aload_n dX5_feed_49 0 rfl ?_
        refine a_dup dX5_feed_50 rfl ?_
        refine a_get3 dX5_feed_51 17 (by decide) (tbc _ kF_RX5_152) (fun w h => tbc _ (uW3 w h)) rfl ob_62 rfl ?_
        refine a_iconst (v := 1) dX5_feed_54 (by decide) ?_
        refine a_iadd dX5_feed_55 ?_
        refine a_put3 dX5_feed_56 17 (by decide) (tbc _ kF_RX5_152) (fun w h => tbc _ (uW3 w h)) rfl rfl rfl rfl ob_62 fs3_17 ?_
        refine a_aload_n dX5_feed_59 0 rfl ?_
        refine a_get3 dX5_feed_60 17 (by decide) (tbc _ kF_RX5_152) (fun w h => tbc _ (uW3 w h)) rfl ob_62 rfl ?_
        exact a_iret dX5_feed_63 ⟨_, rfl, h⟩
      · have h := h.2 c
        refine a_sub [0] rfl ?_
        exact s5_feed_c32 _ h
  · have h := h.2 c
    refine a_aload_n dX5_feed_9 0 rfl ?_
    refine a_bipush (v := -4) dX5_feed_10 (by decide) ?_
    refine a_callVi (n := 1) [.int _] (C := RX5) (ci := 3) (qc := (RX5, TX5, 40)) (fsF := fl3 G _) ob_62.1 (fun _ => en3 ob_62.2) rfl rfl dX5_feed_12 (s5_refuse h) (gV tbc kM_RX5_149_X5_refuse kI_X5_refuse kS_X5_refuse kN_RX5 kC_X5_refuse) rfl (by decide +kernel) ⟨Nat.le_of_ble_eq_true rfl, Nat.le_of_ble_eq_true rfl⟩ rfl rfl (Nat.le_of_ble_eq_true rfl) ⟨Nat.le_refl 0, Nat.le_refl 0⟩ (fun r M h => ?_)
    exact a_iret dX5_feed_15 ⟨_, rfl, h⟩

/-! X5_staysDry -/
theorem dX5_staysDry_0 : decode cX5_staysDry 0 = .ok (.iconst 1, 1) := by decide +kernel
theorem dX5_staysDry_1 : decode cX5_staysDry 1 = .ok (.istore_n 3, 1) := by decide +kernel
theorem dX5_staysDry_2 : decode cX5_staysDry 2 = .ok (.iconst 0, 1) := by decide +kernel
theorem dX5_staysDry_3 : decode cX5_staysDry 3 = .ok (.istore 4, 2) := by decide +kernel
theorem dX5_staysDry_5 : decode cX5_staysDry 5 = .ok (.iload 4, 2) := by decide +kernel
theorem dX5_staysDry_7 : decode cX5_staysDry 7 = .ok (.iload_n 2, 1) := by decide +kernel
theorem dX5_staysDry_8 : decode cX5_staysDry 8 = .ok (.if_icmp .gt 35, 3) := by decide +kernel
theorem dX5_staysDry_11 : decode cX5_staysDry 11 = .ok (.iload_n 3, 1) := by decide +kernel
theorem dX5_staysDry_12 : decode cX5_staysDry 12 = .ok (.ifCond .eq 31, 3) := by decide +kernel
theorem dX5_staysDry_15 : decode cX5_staysDry 15 = .ok (.aload_n 0, 1) := by decide +kernel
theorem dX5_staysDry_16 : decode cX5_staysDry 16 = .ok (.invokevirtual 257, 3) := by decide +kernel
theorem dX5_staysDry_19 : decode cX5_staysDry 19 = .ok (.iload_n 1, 1) := by decide +kernel
theorem dX5_staysDry_20 : decode cX5_staysDry 20 = .ok (.invokestatic 93, 3) := by decide +kernel
theorem dX5_staysDry_23 : decode cX5_staysDry 23 = .ok (.ifCond .ne 7, 3) := by decide +kernel
theorem dX5_staysDry_26 : decode cX5_staysDry 26 = .ok (.iconst 1, 1) := by decide +kernel
theorem dX5_staysDry_27 : decode cX5_staysDry 27 = .ok (.goto 4, 3) := by decide +kernel
theorem dX5_staysDry_30 : decode cX5_staysDry 30 = .ok (.iconst 0, 1) := by decide +kernel
theorem dX5_staysDry_31 : decode cX5_staysDry 31 = .ok (.istore_n 3, 1) := by decide +kernel
theorem dX5_staysDry_32 : decode cX5_staysDry 32 = .ok (.aload_n 0, 1) := by decide +kernel
theorem dX5_staysDry_33 : decode cX5_staysDry 33 = .ok (.iconst 0, 1) := by decide +kernel
theorem dX5_staysDry_34 : decode cX5_staysDry 34 = .ok (.invokevirtual 146, 3) := by decide +kernel
theorem dX5_staysDry_37 : decode cX5_staysDry 37 = .ok (.iinc 4 1, 3) := by decide +kernel
theorem dX5_staysDry_40 : decode cX5_staysDry 40 = .ok (.goto (-35), 3) := by decide +kernel
theorem dX5_staysDry_43 : decode cX5_staysDry 43 = .ok (.aload_n 0, 1) := by decide +kernel
theorem dX5_staysDry_44 : decode cX5_staysDry 44 = .ok (.invokevirtual 215, 3) := by decide +kernel
theorem dX5_staysDry_47 : decode cX5_staysDry 47 = .ok (.iload_n 3, 1) := by decide +kernel
theorem dX5_staysDry_48 : decode cX5_staysDry 48 = .ok (.ireturn, 1) := by decide +kernel
abbrev A5_staysDry (G : GG) (Q : Int32 → MM → Prop) := AW G E0 (MZ G (qI Q)) (WY yX5_staysDry cX5_staysDry 5 (some .boolean)) RX5 cX5_staysDry 5 (some .boolean) ({ frames := 4, cells := 0, slots := 0, locals := 89 } : Room) 0 0
def D5_staysDry_c31 (K5 : Int32 → Int32 → Int32 → Int32 → MM → Prop) (Q : Int32 → MM → Prop) (x1 : Int32) (x2 : Int32) (x4 : Int32) (s0 : Int32) (M : MM) : Prop := D5_hourBy (0 : Int32) M (fun (M8 : MM) => (fun v9 : Int32 => K5 x1 x2 s0 v9 M8) (x4 + (1 : Int32)))
def D5_staysDry_c43 (Q : Int32 → MM → Prop) (x3 : Int32) (M : MM) : Prop := D5_again M (fun (M6 : MM) => bo x3 ∧ Q x3 M6)
def D5_staysDry_c5 (Q : Int32 → MM → Prop) : Nat → Int32 → Int32 → Int32 → Int32 → MM → Prop
  | 0, _, _, _, _, _ => False
  | n + 1, x1, x2, x3, x4, M => ((x2 < x4 → D5_staysDry_c43 Q x3 M) ∧ (¬ x2 < x4 → ((x3 = 0 → D5_staysDry_c43 Q x3 M) ∧ (¬ x3 = 0 → D5_wetNow M (fun (r1 : Int32) (M2 : MM) => D5_hasBit r1 x1 M2 (fun (r3 : Int32) (M4 : MM) => ((r3 ≠ 0 → D5_staysDry_c31 (D5_staysDry_c5 Q n) Q x1 x2 x4 (0 : Int32) M4) ∧ (r3 = 0 → D5_staysDry_c31 (D5_staysDry_c5 Q n) Q x1 x2 x4 (1 : Int32) M4))))))))
def D5_staysDry (x1 : Int32) (x2 : Int32) (M : MM) (Q : Int32 → MM → Prop) : Prop := D5_staysDry_c5 Q FU x1 x2 (1 : Int32) (0 : Int32) M
set_option maxHeartbeats 4000000 in
set_option maxRecDepth 100000 in
theorem s5_staysDry_c31 {G : GG} {K5 : Int32 → Int32 → Int32 → Int32 → MM → Prop} {Q : Int32 → MM → Prop} (hK5 : ∀ (x1 : Int32) (x2 : Int32) (x3 : Int32) (x4 : Int32) (M : MM), K5 x1 x2 x3 x4 M → A5_staysDry G Q 5 [(0, .ref (gA G 62)), (1, .int x1), (2, .int x2), (3, .int x3), (4, .int x4)] [] M) : ∀ (x1 : Int32) (x2 : Int32) (x4 : Int32) (s0 : Int32) (M : MM), D5_staysDry_c31 K5 Q x1 x2 x4 s0 M → A5_staysDry G Q 31 [(0, .ref (gA G 62)), (1, .int x1), (2, .int x2), (4, .int x4)] [.int s0] M := by
  intro x1 x2 x4 s0 M h
  unfold D5_staysDry_c31 at h
  refine a_istore_n (i := 3) (L' := [(3, .int _), (0, .ref _), (1, .int _), (2, .int _), (4, .int _)]) dX5_staysDry_31 rfl (by decide) rfl ?_
  refine a_aload_n dX5_staysDry_32 1 rfl ?_
  refine a_iconst (v := 0) dX5_staysDry_33 (by decide) ?_
  refine a_callVv (n := 1) [.int _] (C := RX5) (ci := 3) (qc := (RX5, TX5, 40)) (fsF := fl3 G _) ob_62.1 (fun _ => en3 ob_62.2) rfl rfl dX5_staysDry_34 (s5_hourBy h) (gV tbc kM_RX5_146_X5_hourBy kI_X5_hourBy kS_X5_hourBy kN_RX5 kC_X5_hourBy) rfl (by decide +kernel) ⟨Nat.le_of_ble_eq_true rfl, Nat.le_of_ble_eq_true rfl⟩ rfl rfl (Nat.le_of_ble_eq_true rfl) ⟨Nat.le_refl 0, Nat.le_refl 0⟩ (fun M h => ?_)
  refine a_iinc (L' := [(4, .int _), (3, .int _), (0, .ref _), (1, .int _), (2, .int _)]) dX5_staysDry_37 4 rfl (show _ + Int32.ofInt (1 : Int) = _ + (1 : Int32) from rfl) (by decide) rfl ?_
  refine a_goto (tgt := 5) dX5_staysDry_40 (by decide) ?_
  refine a_sub [2, 3, 4, 1, 0] rfl ?_
  exact hK5 _ _ _ _ _ h
set_option maxHeartbeats 4000000 in
set_option maxRecDepth 100000 in
theorem s5_staysDry_c43 {G : GG} {Q : Int32 → MM → Prop} : ∀ (x3 : Int32) (M : MM), D5_staysDry_c43 Q x3 M → A5_staysDry G Q 43 [(0, .ref (gA G 62)), (3, .int x3)] [] M := by
  intro x3 M h
  unfold D5_staysDry_c43 at h
  refine a_aload_n dX5_staysDry_43 0 rfl ?_
  refine a_callVv (n := 0) [] (C := RX5) (ci := 3) (qc := (RX5, TX5, 40)) (fsF := fl3 G _) ob_62.1 (fun _ => en3 ob_62.2) rfl rfl dX5_staysDry_44 (s5_again h) (gV tbc kM_RX5_215_X5_again kI_X5_again kS_X5_again kN_RX5 kC_X5_again) rfl (by decide +kernel) ⟨Nat.le_of_ble_eq_true rfl, Nat.le_of_ble_eq_true rfl⟩ rfl rfl (Nat.le_of_ble_eq_true rfl) ⟨Nat.le_refl 0, Nat.le_refl 0⟩ (fun M h => ?_)
  refine a_iload_n dX5_staysDry_47 1 rfl ?_
  exact a_zret dX5_staysDry_48 h.1 ⟨_, rfl, h.2⟩
set_option maxHeartbeats 4000000 in
set_option maxRecDepth 100000 in
theorem s5_staysDry_c5 {G : GG} {Q : Int32 → MM → Prop} : ∀ (n : Nat) (x1 : Int32) (x2 : Int32) (x3 : Int32) (x4 : Int32) (M : MM), D5_staysDry_c5 Q n x1 x2 x3 x4 M → A5_staysDry G Q 5 [(0, .ref (gA G 62)), (1, .int x1), (2, .int x2), (3, .int x3), (4, .int x4)] [] M := by
  intro n
  induction n with
  | zero => intro x1 x2 x3 x4 M h; exact h.elim
  | succ n ih =>
    intro x1 x2 x3 x4 M h
    unfold D5_staysDry_c5 at h
    refine a_iload dX5_staysDry_5 4 rfl ?_
    refine a_iload_n dX5_staysDry_7 2 rfl ?_
    refine a_icmp_gt (tgt := 43) dX5_staysDry_8 (by decide) (fun c => ?_) (fun c => ?_)
    · have h := h.1 c
      refine a_sub [0, 3] rfl ?_
      exact s5_staysDry_c43 _ _ h
    · have h := h.2 c
      refine a_iload_n dX5_staysDry_11 3 rfl ?_
      refine a_if_eq (tgt := 43) dX5_staysDry_12 (by decide) (fun c => ?_) (fun c => ?_)
      · have h := h.1 c
        refine a_sub [0, 3] rfl ?_
        exact s5_staysDry_c43 _ _ h
      · have h := h.2 c
        refine a_aload_n dX5_staysDry_15 0 rfl ?_
        refine a_callVi (n := 0) [] (C := RX5) (ci := 3) (qc := (RX5, TX5, 40)) (fsF := fl3 G _) ob_62.1 (fun _ => en3 ob_62.2) rfl rfl dX5_staysDry_16 (s5_wetNow h) (gV tbc kM_RX5_257_X5_wetNow kI_X5_wetNow kS_X5_wetNow kN_RX5 kC_X5_wetNow) rfl (by decide +kernel) ⟨Nat.le_of_ble_eq_true rfl, Nat.le_of_ble_eq_true rfl⟩ rfl rfl (Nat.le_of_ble_eq_true rfl) ⟨Nat.le_refl 0, Nat.le_refl 0⟩ (fun r M h => ?_)
        refine a_iload_n dX5_staysDry_19 1 rfl ?_
        refine a_callSi (n := 2) [.int _, .int _] dX5_staysDry_20 (s5_hasBit h) (gS tbc kM_RX5_93_X5_hasBit kT_X5_hasBit kN_RX5 kC_X5_hasBit) rfl (by decide +kernel) ⟨Nat.le_of_ble_eq_true rfl, Nat.le_of_ble_eq_true rfl⟩ rfl rfl (Nat.le_of_ble_eq_true rfl) ⟨Nat.le_refl 0, Nat.le_refl 0⟩ (fun r M h => ?_)
        refine a_if_ne (tgt := 30) dX5_staysDry_23 (by decide) (fun c => ?_) (fun c => ?_)
        · have h := h.1 c
          refine a_iconst (v := 0) dX5_staysDry_30 (by decide) ?_
          refine a_sub [0, 1, 2, 4] rfl ?_
          exact s5_staysDry_c31 ih _ _ _ _ _ h
        · have h := h.2 c
          refine a_iconst (v := 1) dX5_staysDry_26 (by decide) ?_
          refine a_goto (tgt := 31) dX5_staysDry_27 (by decide) ?_
          refine a_sub [0, 1, 2, 4] rfl ?_
          exact s5_staysDry_c31 ih _ _ _ _ _ h
set_option maxHeartbeats 4000000 in
set_option maxRecDepth 100000 in
theorem s5_staysDry {G : GG} {x1 : Int32} {x2 : Int32} {M : MM} {Q : Int32 → MM → Prop} (h : D5_staysDry x1 x2 M Q) : CM G yX5_staysDry (WY yX5_staysDry cX5_staysDry 5 (some .boolean)) 4 89 [.ref (gA G 62), .int x1, .int x2] M (qI Q) := by
  refine CM.of (cc := cX5_staysDry) (nL := 5) (ret := (some .boolean)) (own := RX5) (by decide +kernel) rfl rfl (Nat.le_of_ble_eq_true rfl) ?_
  show A5_staysDry G Q 0 [(0, .ref (gA G 62)), (1, .int x1), (2, .int x2)] [] M
  unfold D5_staysDry at h
  refine a_iconst (v := 1) dX5_staysDry_0 (by decide) ?_
  refine a_istore_n (i := 3) (L' := [(3, .int _), (0, .ref _), (1, .int _), (2, .int _)]) dX5_staysDry_1 rfl (by decide) rfl ?_
  refine a_iconst (v := 0) dX5_staysDry_2 (by decide) ?_
  refine a_istore (i := 4) (L' := [(4, .int _), (3, .int _), (0, .ref _), (1, .int _), (2, .int _)]) dX5_staysDry_3 (by decide) rfl ?_
  refine a_sub [2, 3, 4, 1, 0] rfl ?_
  exact s5_staysDry_c5 _ _ _ _ _ _ h

/-! X5_firstOfOne -/
theorem dX5_firstOfOne_0 : decode cX5_firstOfOne 0 = .ok (.iconst 0, 1) := by decide +kernel
theorem dX5_firstOfOne_1 : decode cX5_firstOfOne 1 = .ok (.istore_n 3, 1) := by decide +kernel
theorem dX5_firstOfOne_2 : decode cX5_firstOfOne 2 = .ok (.iload_n 3, 1) := by decide +kernel
theorem dX5_firstOfOne_3 : decode cX5_firstOfOne 3 = .ok (.bipush 25, 2) := by decide +kernel
theorem dX5_firstOfOne_5 : decode cX5_firstOfOne 5 = .ok (.if_icmp .ge 36, 3) := by decide +kernel
theorem dX5_firstOfOne_8 : decode cX5_firstOfOne 8 = .ok (.aload_n 0, 1) := by decide +kernel
theorem dX5_firstOfOne_9 : decode cX5_firstOfOne 9 = .ok (.iload_n 3, 1) := by decide +kernel
theorem dX5_firstOfOne_10 : decode cX5_firstOfOne 10 = .ok (.invokevirtual 188, 3) := by decide +kernel
theorem dX5_firstOfOne_13 : decode cX5_firstOfOne 13 = .ok (.ifCond .ge 22, 3) := by decide +kernel
theorem dX5_firstOfOne_16 : decode cX5_firstOfOne 16 = .ok (.aload_n 0, 1) := by decide +kernel
theorem dX5_firstOfOne_17 : decode cX5_firstOfOne 17 = .ok (.iconst 0, 1) := by decide +kernel
theorem dX5_firstOfOne_18 : decode cX5_firstOfOne 18 = .ok (.bipush 9, 2) := by decide +kernel
theorem dX5_firstOfOne_20 : decode cX5_firstOfOne 20 = .ok (.iload_n 3, 1) := by decide +kernel
theorem dX5_firstOfOne_21 : decode cX5_firstOfOne 21 = .ok (.invokevirtual 191, 3) := by decide +kernel
theorem dX5_firstOfOne_24 : decode cX5_firstOfOne 24 = .ok (.aload_n 0, 1) := by decide +kernel
theorem dX5_firstOfOne_25 : decode cX5_firstOfOne 25 = .ok (.iload_n 1, 1) := by decide +kernel
theorem dX5_firstOfOne_26 : decode cX5_firstOfOne 26 = .ok (.iload_n 2, 1) := by decide +kernel
theorem dX5_firstOfOne_27 : decode cX5_firstOfOne 27 = .ok (.invokevirtual 271, 3) := by decide +kernel
theorem dX5_firstOfOne_30 : decode cX5_firstOfOne 30 = .ok (.ifCond .eq 5, 3) := by decide +kernel
theorem dX5_firstOfOne_33 : decode cX5_firstOfOne 33 = .ok (.iload_n 3, 1) := by decide +kernel
theorem dX5_firstOfOne_34 : decode cX5_firstOfOne 34 = .ok (.ireturn, 1) := by decide +kernel
theorem dX5_firstOfOne_35 : decode cX5_firstOfOne 35 = .ok (.iinc 3 1, 3) := by decide +kernel
theorem dX5_firstOfOne_38 : decode cX5_firstOfOne 38 = .ok (.goto (-36), 3) := by decide +kernel
theorem dX5_firstOfOne_41 : decode cX5_firstOfOne 41 = .ok (.bipush (-9), 2) := by decide +kernel
theorem dX5_firstOfOne_43 : decode cX5_firstOfOne 43 = .ok (.ireturn, 1) := by decide +kernel
abbrev A5_firstOfOne (G : GG) (Q : Int32 → MM → Prop) := AW G E0 (MZ G (qI Q)) (WY yX5_firstOfOne cX5_firstOfOne 4 (some .int)) RX5 cX5_firstOfOne 4 (some .int) ({ frames := 5, cells := 0, slots := 0, locals := 113 } : Room) 0 0
def D5_firstOfOne_c35 (K2 : Int32 → Int32 → Int32 → MM → Prop) (Q : Int32 → MM → Prop) (x1 : Int32) (x2 : Int32) (x3 : Int32) (M : MM) : Prop := (fun v7 : Int32 => K2 x1 x2 v7 M) (x3 + (1 : Int32))
def D5_firstOfOne_c2 (Q : Int32 → MM → Prop) : Nat → Int32 → Int32 → Int32 → MM → Prop
  | 0, _, _, _, _ => False
  | n + 1, x1, x2, x3, M => (((25 : Int32) ≤ x3 → Q (-9 : Int32) M) ∧ (¬ (25 : Int32) ≤ x3 → D5_workAt x3 M (fun (r1 : Int32) (M2 : MM) => ((0 ≤ r1 → D5_firstOfOne_c35 (D5_firstOfOne_c2 Q n) Q x1 x2 x3 M2) ∧ (¬ 0 ≤ r1 → D5_workComes (0 : Int32) (9 : Int32) x3 M2 (fun (M4 : MM) => D5_staysDry x1 x2 M4 (fun (r5 : Int32) (M6 : MM) => ((r5 = 0 → D5_firstOfOne_c35 (D5_firstOfOne_c2 Q n) Q x1 x2 x3 M6) ∧ (¬ r5 = 0 → Q x3 M6)))))))))
def D5_firstOfOne (x1 : Int32) (x2 : Int32) (M : MM) (Q : Int32 → MM → Prop) : Prop := D5_firstOfOne_c2 Q FU x1 x2 (0 : Int32) M
set_option maxHeartbeats 4000000 in
set_option maxRecDepth 100000 in
theorem s5_firstOfOne_c35 {G : GG} {K2 : Int32 → Int32 → Int32 → MM → Prop} {Q : Int32 → MM → Prop} (hK2 : ∀ (x1 : Int32) (x2 : Int32) (x3 : Int32) (M : MM), K2 x1 x2 x3 M → A5_firstOfOne G Q 2 [(0, .ref (gA G 62)), (1, .int x1), (2, .int x2), (3, .int x3)] [] M) : ∀ (x1 : Int32) (x2 : Int32) (x3 : Int32) (M : MM), D5_firstOfOne_c35 K2 Q x1 x2 x3 M → A5_firstOfOne G Q 35 [(0, .ref (gA G 62)), (1, .int x1), (2, .int x2), (3, .int x3)] [] M := by
  intro x1 x2 x3 M h
  unfold D5_firstOfOne_c35 at h
  refine a_iinc (L' := [(3, .int _), (0, .ref _), (1, .int _), (2, .int _)]) dX5_firstOfOne_35 3 rfl (show _ + Int32.ofInt (1 : Int) = _ + (1 : Int32) from rfl) (by decide) rfl ?_
  refine a_goto (tgt := 2) dX5_firstOfOne_38 (by decide) ?_
  refine a_sub [1, 2, 3, 0] rfl ?_
  exact hK2 _ _ _ _ h
set_option maxHeartbeats 4000000 in
set_option maxRecDepth 100000 in
theorem s5_firstOfOne_c2 {G : GG} {Q : Int32 → MM → Prop} : ∀ (n : Nat) (x1 : Int32) (x2 : Int32) (x3 : Int32) (M : MM), D5_firstOfOne_c2 Q n x1 x2 x3 M → A5_firstOfOne G Q 2 [(0, .ref (gA G 62)), (1, .int x1), (2, .int x2), (3, .int x3)] [] M := by
  intro n
  induction n with
  | zero => intro x1 x2 x3 M h; exact h.elim
  | succ n ih =>
    intro x1 x2 x3 M h
    unfold D5_firstOfOne_c2 at h
    refine a_iload_n dX5_firstOfOne_2 3 rfl ?_
    refine a_bipush (v := 25) dX5_firstOfOne_3 (by decide) ?_
    refine a_icmp_ge (tgt := 41) dX5_firstOfOne_5 (by decide) (fun c => ?_) (fun c => ?_)
    · have h := h.1 c
      refine a_bipush (v := -9) dX5_firstOfOne_41 (by decide) ?_
      exact a_iret dX5_firstOfOne_43 ⟨_, rfl, h⟩
    · have h := h.2 c
      refine a_aload_n dX5_firstOfOne_8 0 rfl ?_
      refine a_iload_n dX5_firstOfOne_9 3 rfl ?_
      refine a_callVi (n := 1) [.int _] (C := RX5) (ci := 3) (qc := (RX5, TX5, 40)) (fsF := fl3 G _) ob_62.1 (fun _ => en3 ob_62.2) rfl rfl dX5_firstOfOne_10 (s5_workAt h) (gV tbc kM_RX5_188_X5_workAt kI_X5_workAt kS_X5_workAt kN_RX5 kC_X5_workAt) rfl (by decide +kernel) ⟨Nat.le_of_ble_eq_true rfl, Nat.le_of_ble_eq_true rfl⟩ rfl rfl (Nat.le_of_ble_eq_true rfl) ⟨Nat.le_refl 0, Nat.le_refl 0⟩ (fun r M h => ?_)
      refine a_if_ge (tgt := 35) dX5_firstOfOne_13 (by decide) (fun c => ?_) (fun c => ?_)
      · have h := h.1 c
        refine a_sub [0, 1, 2, 3] rfl ?_
        exact s5_firstOfOne_c35 ih _ _ _ _ h
      · have h := h.2 c
        refine a_aload_n dX5_firstOfOne_16 0 rfl ?_
        refine a_iconst (v := 0) dX5_firstOfOne_17 (by decide) ?_
        refine a_bipush (v := 9) dX5_firstOfOne_18 (by decide) ?_
        refine a_iload_n dX5_firstOfOne_20 3 rfl ?_
        refine a_callVv (n := 3) [.int _, .int _, .int _] (C := RX5) (ci := 3) (qc := (RX5, TX5, 40)) (fsF := fl3 G _) ob_62.1 (fun _ => en3 ob_62.2) rfl rfl dX5_firstOfOne_21 (s5_workComes h) (gV tbc kM_RX5_191_X5_workComes kI_X5_workComes kS_X5_workComes kN_RX5 kC_X5_workComes) rfl (by decide +kernel) ⟨Nat.le_of_ble_eq_true rfl, Nat.le_of_ble_eq_true rfl⟩ rfl rfl (Nat.le_of_ble_eq_true rfl) ⟨Nat.le_refl 0, Nat.le_refl 0⟩ (fun M h => ?_)
        refine a_aload_n dX5_firstOfOne_24 0 rfl ?_
        refine a_iload_n dX5_firstOfOne_25 1 rfl ?_
        refine a_iload_n dX5_firstOfOne_26 2 rfl ?_
        refine a_callVi (n := 2) [.int _, .int _] (C := RX5) (ci := 3) (qc := (RX5, TX5, 40)) (fsF := fl3 G _) ob_62.1 (fun _ => en3 ob_62.2) rfl rfl dX5_firstOfOne_27 (s5_staysDry h) (gV tbc kM_RX5_271_X5_staysDry kI_X5_staysDry kS_X5_staysDry kN_RX5 kC_X5_staysDry) rfl (by decide +kernel) ⟨Nat.le_of_ble_eq_true rfl, Nat.le_of_ble_eq_true rfl⟩ rfl rfl (Nat.le_of_ble_eq_true rfl) ⟨Nat.le_refl 0, Nat.le_refl 0⟩ (fun r M h => ?_)
        refine a_if_eq (tgt := 35) dX5_firstOfOne_30 (by decide) (fun c => ?_) (fun c => ?_)
        · have h := h.1 c
          refine a_sub [0, 1, 2, 3] rfl ?_
          exact s5_firstOfOne_c35 ih _ _ _ _ h
        · have h := h.2 c
          refine a_iload_n dX5_firstOfOne_33 3 rfl ?_
          exact a_iret dX5_firstOfOne_34 ⟨_, rfl, h⟩
set_option maxHeartbeats 4000000 in
set_option maxRecDepth 100000 in
theorem s5_firstOfOne {G : GG} {x1 : Int32} {x2 : Int32} {M : MM} {Q : Int32 → MM → Prop} (h : D5_firstOfOne x1 x2 M Q) : CM G yX5_firstOfOne (WY yX5_firstOfOne cX5_firstOfOne 4 (some .int)) 5 113 [.ref (gA G 62), .int x1, .int x2] M (qI Q) := by
  refine CM.of (cc := cX5_firstOfOne) (nL := 4) (ret := (some .int)) (own := RX5) (by decide +kernel) rfl rfl (Nat.le_of_ble_eq_true rfl) ?_
  show A5_firstOfOne G Q 0 [(0, .ref (gA G 62)), (1, .int x1), (2, .int x2)] [] M
  unfold D5_firstOfOne at h
  refine a_iconst (v := 0) dX5_firstOfOne_0 (by decide) ?_
  refine a_istore_n (i := 3) (L' := [(3, .int _), (0, .ref _), (1, .int _), (2, .int _)]) dX5_firstOfOne_1 rfl (by decide) rfl ?_
  refine a_sub [1, 2, 3, 0] rfl ?_
  exact s5_firstOfOne_c2 _ _ _ _ _ h

/-! X5_firstOfTwo -/
theorem dX5_firstOfTwo_0 : decode cX5_firstOfTwo 0 = .ok (.iconst 0, 1) := by decide +kernel
theorem dX5_firstOfTwo_1 : decode cX5_firstOfTwo 1 = .ok (.istore_n 3, 1) := by decide +kernel
theorem dX5_firstOfTwo_2 : decode cX5_firstOfTwo 2 = .ok (.iload_n 3, 1) := by decide +kernel
theorem dX5_firstOfTwo_3 : decode cX5_firstOfTwo 3 = .ok (.bipush 25, 2) := by decide +kernel
theorem dX5_firstOfTwo_5 : decode cX5_firstOfTwo 5 = .ok (.if_icmp .ge 72, 3) := by decide +kernel
theorem dX5_firstOfTwo_8 : decode cX5_firstOfTwo 8 = .ok (.iload_n 3, 1) := by decide +kernel
theorem dX5_firstOfTwo_9 : decode cX5_firstOfTwo 9 = .ok (.iconst 1, 1) := by decide +kernel
theorem dX5_firstOfTwo_10 : decode cX5_firstOfTwo 10 = .ok (.iadd, 1) := by decide +kernel
theorem dX5_firstOfTwo_11 : decode cX5_firstOfTwo 11 = .ok (.istore 4, 2) := by decide +kernel
theorem dX5_firstOfTwo_13 : decode cX5_firstOfTwo 13 = .ok (.iload 4, 2) := by decide +kernel
theorem dX5_firstOfTwo_15 : decode cX5_firstOfTwo 15 = .ok (.bipush 25, 2) := by decide +kernel
theorem dX5_firstOfTwo_17 : decode cX5_firstOfTwo 17 = .ok (.if_icmp .ge 54, 3) := by decide +kernel
theorem dX5_firstOfTwo_20 : decode cX5_firstOfTwo 20 = .ok (.aload_n 0, 1) := by decide +kernel
theorem dX5_firstOfTwo_21 : decode cX5_firstOfTwo 21 = .ok (.iload_n 3, 1) := by decide +kernel
theorem dX5_firstOfTwo_22 : decode cX5_firstOfTwo 22 = .ok (.invokevirtual 188, 3) := by decide +kernel
theorem dX5_firstOfTwo_25 : decode cX5_firstOfTwo 25 = .ok (.ifCond .ge 40, 3) := by decide +kernel
theorem dX5_firstOfTwo_28 : decode cX5_firstOfTwo 28 = .ok (.aload_n 0, 1) := by decide +kernel
theorem dX5_firstOfTwo_29 : decode cX5_firstOfTwo 29 = .ok (.iload 4, 2) := by decide +kernel
theorem dX5_firstOfTwo_31 : decode cX5_firstOfTwo 31 = .ok (.invokevirtual 188, 3) := by decide +kernel
theorem dX5_firstOfTwo_34 : decode cX5_firstOfTwo 34 = .ok (.ifCond .ge 31, 3) := by decide +kernel
theorem dX5_firstOfTwo_37 : decode cX5_firstOfTwo 37 = .ok (.aload_n 0, 1) := by decide +kernel
theorem dX5_firstOfTwo_38 : decode cX5_firstOfTwo 38 = .ok (.iconst 0, 1) := by decide +kernel
theorem dX5_firstOfTwo_39 : decode cX5_firstOfTwo 39 = .ok (.bipush 9, 2) := by decide +kernel
theorem dX5_firstOfTwo_41 : decode cX5_firstOfTwo 41 = .ok (.iload_n 3, 1) := by decide +kernel
theorem dX5_firstOfTwo_42 : decode cX5_firstOfTwo 42 = .ok (.invokevirtual 191, 3) := by decide +kernel
theorem dX5_firstOfTwo_45 : decode cX5_firstOfTwo 45 = .ok (.aload_n 0, 1) := by decide +kernel
theorem dX5_firstOfTwo_46 : decode cX5_firstOfTwo 46 = .ok (.iconst 0, 1) := by decide +kernel
theorem dX5_firstOfTwo_47 : decode cX5_firstOfTwo 47 = .ok (.bipush 9, 2) := by decide +kernel
theorem dX5_firstOfTwo_49 : decode cX5_firstOfTwo 49 = .ok (.iload 4, 2) := by decide +kernel
theorem dX5_firstOfTwo_51 : decode cX5_firstOfTwo 51 = .ok (.invokevirtual 191, 3) := by decide +kernel
theorem dX5_firstOfTwo_54 : decode cX5_firstOfTwo 54 = .ok (.aload_n 0, 1) := by decide +kernel
theorem dX5_firstOfTwo_55 : decode cX5_firstOfTwo 55 = .ok (.iload_n 1, 1) := by decide +kernel
theorem dX5_firstOfTwo_56 : decode cX5_firstOfTwo 56 = .ok (.iload_n 2, 1) := by decide +kernel
theorem dX5_firstOfTwo_57 : decode cX5_firstOfTwo 57 = .ok (.invokevirtual 271, 3) := by decide +kernel
theorem dX5_firstOfTwo_60 : decode cX5_firstOfTwo 60 = .ok (.ifCond .eq 5, 3) := by decide +kernel
theorem dX5_firstOfTwo_63 : decode cX5_firstOfTwo 63 = .ok (.iload_n 3, 1) := by decide +kernel
theorem dX5_firstOfTwo_64 : decode cX5_firstOfTwo 64 = .ok (.ireturn, 1) := by decide +kernel
theorem dX5_firstOfTwo_65 : decode cX5_firstOfTwo 65 = .ok (.iinc 4 1, 3) := by decide +kernel
theorem dX5_firstOfTwo_68 : decode cX5_firstOfTwo 68 = .ok (.goto (-55), 3) := by decide +kernel
theorem dX5_firstOfTwo_71 : decode cX5_firstOfTwo 71 = .ok (.iinc 3 1, 3) := by decide +kernel
theorem dX5_firstOfTwo_74 : decode cX5_firstOfTwo 74 = .ok (.goto (-72), 3) := by decide +kernel
theorem dX5_firstOfTwo_77 : decode cX5_firstOfTwo 77 = .ok (.bipush (-9), 2) := by decide +kernel
theorem dX5_firstOfTwo_79 : decode cX5_firstOfTwo 79 = .ok (.ireturn, 1) := by decide +kernel
abbrev A5_firstOfTwo (G : GG) (Q : Int32 → MM → Prop) := AW G E0 (MZ G (qI Q)) (WY yX5_firstOfTwo cX5_firstOfTwo 5 (some .int)) RX5 cX5_firstOfTwo 5 (some .int) ({ frames := 5, cells := 0, slots := 0, locals := 113 } : Room) 0 0
def D5_firstOfTwo_c65 (K13 : Int32 → Int32 → Int32 → Int32 → MM → Prop) (K2 : Int32 → Int32 → Int32 → MM → Prop) (Q : Int32 → MM → Prop) (x1 : Int32) (x2 : Int32) (x3 : Int32) (x4 : Int32) (M : MM) : Prop := (fun v13 : Int32 => K13 x1 x2 x3 v13 M) (x4 + (1 : Int32))
def D5_firstOfTwo_c71 (K2 : Int32 → Int32 → Int32 → MM → Prop) (Q : Int32 → MM → Prop) (x1 : Int32) (x2 : Int32) (x3 : Int32) (M : MM) : Prop := (fun v12 : Int32 => K2 x1 x2 v12 M) (x3 + (1 : Int32))
def D5_firstOfTwo_c13 (K2 : Int32 → Int32 → Int32 → MM → Prop) (Q : Int32 → MM → Prop) : Nat → Int32 → Int32 → Int32 → Int32 → MM → Prop
  | 0, _, _, _, _, _ => False
  | n + 1, x1, x2, x3, x4, M => (((25 : Int32) ≤ x4 → D5_firstOfTwo_c71 K2 Q x1 x2 x3 M) ∧ (¬ (25 : Int32) ≤ x4 → D5_workAt x3 M (fun (r2 : Int32) (M3 : MM) => ((0 ≤ r2 → D5_firstOfTwo_c65 (D5_firstOfTwo_c13 K2 Q n) K2 Q x1 x2 x3 x4 M3) ∧ (¬ 0 ≤ r2 → D5_workAt x4 M3 (fun (r4 : Int32) (M5 : MM) => ((0 ≤ r4 → D5_firstOfTwo_c65 (D5_firstOfTwo_c13 K2 Q n) K2 Q x1 x2 x3 x4 M5) ∧ (¬ 0 ≤ r4 → D5_workComes (0 : Int32) (9 : Int32) x3 M5 (fun (M7 : MM) => D5_workComes (0 : Int32) (9 : Int32) x4 M7 (fun (M9 : MM) => D5_staysDry x1 x2 M9 (fun (r10 : Int32) (M11 : MM) => ((r10 = 0 → D5_firstOfTwo_c65 (D5_firstOfTwo_c13 K2 Q n) K2 Q x1 x2 x3 x4 M11) ∧ (¬ r10 = 0 → Q x3 M11)))))))))))))
def D5_firstOfTwo_c2 (Q : Int32 → MM → Prop) : Nat → Int32 → Int32 → Int32 → MM → Prop
  | 0, _, _, _, _ => False
  | n + 1, x1, x2, x3, M => (((25 : Int32) ≤ x3 → Q (-9 : Int32) M) ∧ (¬ (25 : Int32) ≤ x3 → (fun v1 : Int32 => D5_firstOfTwo_c13 (D5_firstOfTwo_c2 Q n) Q FU x1 x2 x3 v1 M) (x3 + (1 : Int32))))
def D5_firstOfTwo (x1 : Int32) (x2 : Int32) (M : MM) (Q : Int32 → MM → Prop) : Prop := D5_firstOfTwo_c2 Q FU x1 x2 (0 : Int32) M
set_option maxHeartbeats 4000000 in
set_option maxRecDepth 100000 in
theorem s5_firstOfTwo_c65 {G : GG} {K13 : Int32 → Int32 → Int32 → Int32 → MM → Prop} {K2 : Int32 → Int32 → Int32 → MM → Prop} {Q : Int32 → MM → Prop} (hK13 : ∀ (x1 : Int32) (x2 : Int32) (x3 : Int32) (x4 : Int32) (M : MM), K13 x1 x2 x3 x4 M → A5_firstOfTwo G Q 13 [(0, .ref (gA G 62)), (1, .int x1), (2, .int x2), (3, .int x3), (4, .int x4)] [] M) (hK2 : ∀ (x1 : Int32) (x2 : Int32) (x3 : Int32) (M : MM), K2 x1 x2 x3 M → A5_firstOfTwo G Q 2 [(0, .ref (gA G 62)), (1, .int x1), (2, .int x2), (3, .int x3)] [] M) : ∀ (x1 : Int32) (x2 : Int32) (x3 : Int32) (x4 : Int32) (M : MM), D5_firstOfTwo_c65 K13 K2 Q x1 x2 x3 x4 M → A5_firstOfTwo G Q 65 [(0, .ref (gA G 62)), (1, .int x1), (2, .int x2), (3, .int x3), (4, .int x4)] [] M := by
  intro x1 x2 x3 x4 M h
  unfold D5_firstOfTwo_c65 at h
  refine a_iinc (L' := [(4, .int _), (0, .ref _), (1, .int _), (2, .int _), (3, .int _)]) dX5_firstOfTwo_65 4 rfl (show _ + Int32.ofInt (1 : Int) = _ + (1 : Int32) from rfl) (by decide) rfl ?_
  refine a_goto (tgt := 13) dX5_firstOfTwo_68 (by decide) ?_
  refine a_sub [1, 2, 3, 4, 0] rfl ?_
  exact hK13 _ _ _ _ _ h
set_option maxHeartbeats 4000000 in
set_option maxRecDepth 100000 in
theorem s5_firstOfTwo_c71 {G : GG} {K2 : Int32 → Int32 → Int32 → MM → Prop} {Q : Int32 → MM → Prop} (hK2 : ∀ (x1 : Int32) (x2 : Int32) (x3 : Int32) (M : MM), K2 x1 x2 x3 M → A5_firstOfTwo G Q 2 [(0, .ref (gA G 62)), (1, .int x1), (2, .int x2), (3, .int x3)] [] M) : ∀ (x1 : Int32) (x2 : Int32) (x3 : Int32) (M : MM), D5_firstOfTwo_c71 K2 Q x1 x2 x3 M → A5_firstOfTwo G Q 71 [(0, .ref (gA G 62)), (1, .int x1), (2, .int x2), (3, .int x3)] [] M := by
  intro x1 x2 x3 M h
  unfold D5_firstOfTwo_c71 at h
  refine a_iinc (L' := [(3, .int _), (0, .ref _), (1, .int _), (2, .int _)]) dX5_firstOfTwo_71 3 rfl (show _ + Int32.ofInt (1 : Int) = _ + (1 : Int32) from rfl) (by decide) rfl ?_
  refine a_goto (tgt := 2) dX5_firstOfTwo_74 (by decide) ?_
  refine a_sub [1, 2, 3, 0] rfl ?_
  exact hK2 _ _ _ _ h
set_option maxHeartbeats 4000000 in
set_option maxRecDepth 100000 in
theorem s5_firstOfTwo_c13 {G : GG} {K2 : Int32 → Int32 → Int32 → MM → Prop} {Q : Int32 → MM → Prop} (hK2 : ∀ (x1 : Int32) (x2 : Int32) (x3 : Int32) (M : MM), K2 x1 x2 x3 M → A5_firstOfTwo G Q 2 [(0, .ref (gA G 62)), (1, .int x1), (2, .int x2), (3, .int x3)] [] M) : ∀ (n : Nat) (x1 : Int32) (x2 : Int32) (x3 : Int32) (x4 : Int32) (M : MM), D5_firstOfTwo_c13 K2 Q n x1 x2 x3 x4 M → A5_firstOfTwo G Q 13 [(0, .ref (gA G 62)), (1, .int x1), (2, .int x2), (3, .int x3), (4, .int x4)] [] M := by
  intro n
  induction n with
  | zero => intro x1 x2 x3 x4 M h; exact h.elim
  | succ n ih =>
    intro x1 x2 x3 x4 M h
    unfold D5_firstOfTwo_c13 at h
    refine a_iload dX5_firstOfTwo_13 4 rfl ?_
    refine a_bipush (v := 25) dX5_firstOfTwo_15 (by decide) ?_
    refine a_icmp_ge (tgt := 71) dX5_firstOfTwo_17 (by decide) (fun c => ?_) (fun c => ?_)
    · have h := h.1 c
      refine a_sub [0, 1, 2, 3] rfl ?_
      exact s5_firstOfTwo_c71 hK2 _ _ _ _ h
    · have h := h.2 c
      refine a_aload_n dX5_firstOfTwo_20 0 rfl ?_
      refine a_iload_n dX5_firstOfTwo_21 3 rfl ?_
      refine a_callVi (n := 1) [.int _] (C := RX5) (ci := 3) (qc := (RX5, TX5, 40)) (fsF := fl3 G _) ob_62.1 (fun _ => en3 ob_62.2) rfl rfl dX5_firstOfTwo_22 (s5_workAt h) (gV tbc kM_RX5_188_X5_workAt kI_X5_workAt kS_X5_workAt kN_RX5 kC_X5_workAt) rfl (by decide +kernel) ⟨Nat.le_of_ble_eq_true rfl, Nat.le_of_ble_eq_true rfl⟩ rfl rfl (Nat.le_of_ble_eq_true rfl) ⟨Nat.le_refl 0, Nat.le_refl 0⟩ (fun r M h => ?_)
      refine a_if_ge (tgt := 65) dX5_firstOfTwo_25 (by decide) (fun c => ?_) (fun c => ?_)
      · have h := h.1 c
        refine a_sub [0, 1, 2, 3, 4] rfl ?_
        exact s5_firstOfTwo_c65 ih hK2 _ _ _ _ _ h
      · have h := h.2 c
        refine a_aload_n dX5_firstOfTwo_28 0 rfl ?_
        refine a_iload dX5_firstOfTwo_29 4 rfl ?_
        refine a_callVi (n := 1) [.int _] (C := RX5) (ci := 3) (qc := (RX5, TX5, 40)) (fsF := fl3 G _) ob_62.1 (fun _ => en3 ob_62.2) rfl rfl dX5_firstOfTwo_31 (s5_workAt h) (gV tbc kM_RX5_188_X5_workAt kI_X5_workAt kS_X5_workAt kN_RX5 kC_X5_workAt) rfl (by decide +kernel) ⟨Nat.le_of_ble_eq_true rfl, Nat.le_of_ble_eq_true rfl⟩ rfl rfl (Nat.le_of_ble_eq_true rfl) ⟨Nat.le_refl 0, Nat.le_refl 0⟩ (fun r M h => ?_)
        refine a_if_ge (tgt := 65) dX5_firstOfTwo_34 (by decide) (fun c => ?_) (fun c => ?_)
        · have h := h.1 c
          refine a_sub [0, 1, 2, 3, 4] rfl ?_
          exact s5_firstOfTwo_c65 ih hK2 _ _ _ _ _ h
        · have h := h.2 c
          refine a_aload_n dX5_firstOfTwo_37 0 rfl ?_
          refine a_iconst (v := 0) dX5_firstOfTwo_38 (by decide) ?_
          refine a_bipush (v := 9) dX5_firstOfTwo_39 (by decide) ?_
          refine a_iload_n dX5_firstOfTwo_41 3 rfl ?_
          refine a_callVv (n := 3) [.int _, .int _, .int _] (C := RX5) (ci := 3) (qc := (RX5, TX5, 40)) (fsF := fl3 G _) ob_62.1 (fun _ => en3 ob_62.2) rfl rfl dX5_firstOfTwo_42 (s5_workComes h) (gV tbc kM_RX5_191_X5_workComes kI_X5_workComes kS_X5_workComes kN_RX5 kC_X5_workComes) rfl (by decide +kernel) ⟨Nat.le_of_ble_eq_true rfl, Nat.le_of_ble_eq_true rfl⟩ rfl rfl (Nat.le_of_ble_eq_true rfl) ⟨Nat.le_refl 0, Nat.le_refl 0⟩ (fun M h => ?_)
          refine a_aload_n dX5_firstOfTwo_45 0 rfl ?_
          refine a_iconst (v := 0) dX5_firstOfTwo_46 (by decide) ?_
          refine a_bipush (v := 9) dX5_firstOfTwo_47 (by decide) ?_
          refine a_iload dX5_firstOfTwo_49 4 rfl ?_
          refine a_callVv (n := 3) [.int _, .int _, .int _] (C := RX5) (ci := 3) (qc := (RX5, TX5, 40)) (fsF := fl3 G _) ob_62.1 (fun _ => en3 ob_62.2) rfl rfl dX5_firstOfTwo_51 (s5_workComes h) (gV tbc kM_RX5_191_X5_workComes kI_X5_workComes kS_X5_workComes kN_RX5 kC_X5_workComes) rfl (by decide +kernel) ⟨Nat.le_of_ble_eq_true rfl, Nat.le_of_ble_eq_true rfl⟩ rfl rfl (Nat.le_of_ble_eq_true rfl) ⟨Nat.le_refl 0, Nat.le_refl 0⟩ (fun M h => ?_)
          refine a_aload_n dX5_firstOfTwo_54 0 rfl ?_
          refine a_iload_n dX5_firstOfTwo_55 1 rfl ?_
          refine a_iload_n dX5_firstOfTwo_56 2 rfl ?_
          refine a_callVi (n := 2) [.int _, .int _] (C := RX5) (ci := 3) (qc := (RX5, TX5, 40)) (fsF := fl3 G _) ob_62.1 (fun _ => en3 ob_62.2) rfl rfl dX5_firstOfTwo_57 (s5_staysDry h) (gV tbc kM_RX5_271_X5_staysDry kI_X5_staysDry kS_X5_staysDry kN_RX5 kC_X5_staysDry) rfl (by decide +kernel) ⟨Nat.le_of_ble_eq_true rfl, Nat.le_of_ble_eq_true rfl⟩ rfl rfl (Nat.le_of_ble_eq_true rfl) ⟨Nat.le_refl 0, Nat.le_refl 0⟩ (fun r M h => ?_)
          refine a_if_eq (tgt := 65) dX5_firstOfTwo_60 (by decide) (fun c => ?_) (fun c => ?_)
          · have h := h.1 c
            refine a_sub [0, 1, 2, 3, 4] rfl ?_
            exact s5_firstOfTwo_c65 ih hK2 _ _ _ _ _ h
          · have h := h.2 c
            refine a_iload_n dX5_firstOfTwo_63 3 rfl ?_
            exact a_iret dX5_firstOfTwo_64 ⟨_, rfl, h⟩
set_option maxHeartbeats 4000000 in
set_option maxRecDepth 100000 in
theorem s5_firstOfTwo_c2 {G : GG} {Q : Int32 → MM → Prop} : ∀ (n : Nat) (x1 : Int32) (x2 : Int32) (x3 : Int32) (M : MM), D5_firstOfTwo_c2 Q n x1 x2 x3 M → A5_firstOfTwo G Q 2 [(0, .ref (gA G 62)), (1, .int x1), (2, .int x2), (3, .int x3)] [] M := by
  intro n
  induction n with
  | zero => intro x1 x2 x3 M h; exact h.elim
  | succ n ih =>
    intro x1 x2 x3 M h
    unfold D5_firstOfTwo_c2 at h
    refine a_iload_n dX5_firstOfTwo_2 3 rfl ?_
    refine a_bipush (v := 25) dX5_firstOfTwo_3 (by decide) ?_
    refine a_icmp_ge (tgt := 77) dX5_firstOfTwo_5 (by decide) (fun c => ?_) (fun c => ?_)
    · have h := h.1 c
      refine a_bipush (v := -9) dX5_firstOfTwo_77 (by decide) ?_
      exact a_iret dX5_firstOfTwo_79 ⟨_, rfl, h⟩
    · have h := h.2 c
      refine a_iload_n dX5_firstOfTwo_8 3 rfl ?_
      refine a_iconst (v := 1) dX5_firstOfTwo_9 (by decide) ?_
      refine a_iadd dX5_firstOfTwo_10 ?_
      refine a_istore (i := 4) (L' := [(4, .int _), (0, .ref _), (1, .int _), (2, .int _), (3, .int _)]) dX5_firstOfTwo_11 (by decide) rfl ?_
      refine a_sub [1, 2, 3, 4, 0] rfl ?_
      exact s5_firstOfTwo_c13 ih _ _ _ _ _ _ h
set_option maxHeartbeats 4000000 in
set_option maxRecDepth 100000 in
theorem s5_firstOfTwo {G : GG} {x1 : Int32} {x2 : Int32} {M : MM} {Q : Int32 → MM → Prop} (h : D5_firstOfTwo x1 x2 M Q) : CM G yX5_firstOfTwo (WY yX5_firstOfTwo cX5_firstOfTwo 5 (some .int)) 5 113 [.ref (gA G 62), .int x1, .int x2] M (qI Q) := by
  refine CM.of (cc := cX5_firstOfTwo) (nL := 5) (ret := (some .int)) (own := RX5) (by decide +kernel) rfl rfl (Nat.le_of_ble_eq_true rfl) ?_
  show A5_firstOfTwo G Q 0 [(0, .ref (gA G 62)), (1, .int x1), (2, .int x2)] [] M
  unfold D5_firstOfTwo at h
  refine a_iconst (v := 0) dX5_firstOfTwo_0 (by decide) ?_
  refine a_istore_n (i := 3) (L' := [(3, .int _), (0, .ref _), (1, .int _), (2, .int _)]) dX5_firstOfTwo_1 rfl (by decide) rfl ?_
  refine a_sub [1, 2, 3, 0] rfl ?_
  exact s5_firstOfTwo_c2 _ _ _ _ _ h

/-! X5_keepTurn -/
theorem dX5_keepTurn_0 : decode cX5_keepTurn 0 = .ok (.aload_n 0, 1) := by decide +kernel
theorem dX5_keepTurn_1 : decode cX5_keepTurn 1 = .ok (.getfield 218, 3) := by decide +kernel
theorem dX5_keepTurn_4 : decode cX5_keepTurn 4 = .ok (.bipush 8, 2) := by decide +kernel
theorem dX5_keepTurn_6 : decode cX5_keepTurn 6 = .ok (.if_icmp .ne 44, 3) := by decide +kernel
theorem dX5_keepTurn_9 : decode cX5_keepTurn 9 = .ok (.bipush 44, 2) := by decide +kernel
theorem dX5_keepTurn_11 : decode cX5_keepTurn 11 = .ok (.istore_n 1, 1) := by decide +kernel
theorem dX5_keepTurn_12 : decode cX5_keepTurn 12 = .ok (.iload_n 1, 1) := by decide +kernel
theorem dX5_keepTurn_13 : decode cX5_keepTurn 13 = .ok (.sipush 352, 3) := by decide +kernel
theorem dX5_keepTurn_16 : decode cX5_keepTurn 16 = .ok (.if_icmp .ge 24, 3) := by decide +kernel
theorem dX5_keepTurn_19 : decode cX5_keepTurn 19 = .ok (.aload_n 0, 1) := by decide +kernel
theorem dX5_keepTurn_20 : decode cX5_keepTurn 20 = .ok (.getfield 52, 3) := by decide +kernel
theorem dX5_keepTurn_23 : decode cX5_keepTurn 23 = .ok (.iload_n 1, 1) := by decide +kernel
theorem dX5_keepTurn_24 : decode cX5_keepTurn 24 = .ok (.bipush 44, 2) := by decide +kernel
theorem dX5_keepTurn_26 : decode cX5_keepTurn 26 = .ok (.isub, 1) := by decide +kernel
theorem dX5_keepTurn_27 : decode cX5_keepTurn 27 = .ok (.aload_n 0, 1) := by decide +kernel
theorem dX5_keepTurn_28 : decode cX5_keepTurn 28 = .ok (.getfield 52, 3) := by decide +kernel
theorem dX5_keepTurn_31 : decode cX5_keepTurn 31 = .ok (.iload_n 1, 1) := by decide +kernel
theorem dX5_keepTurn_32 : decode cX5_keepTurn 32 = .ok (.iaload, 1) := by decide +kernel
theorem dX5_keepTurn_33 : decode cX5_keepTurn 33 = .ok (.iastore, 1) := by decide +kernel
theorem dX5_keepTurn_34 : decode cX5_keepTurn 34 = .ok (.iinc 1 1, 3) := by decide +kernel
theorem dX5_keepTurn_37 : decode cX5_keepTurn 37 = .ok (.goto (-25), 3) := by decide +kernel
theorem dX5_keepTurn_40 : decode cX5_keepTurn 40 = .ok (.aload_n 0, 1) := by decide +kernel
theorem dX5_keepTurn_41 : decode cX5_keepTurn 41 = .ok (.dup, 1) := by decide +kernel
theorem dX5_keepTurn_42 : decode cX5_keepTurn 42 = .ok (.getfield 218, 3) := by decide +kernel
theorem dX5_keepTurn_45 : decode cX5_keepTurn 45 = .ok (.iconst 1, 1) := by decide +kernel
theorem dX5_keepTurn_46 : decode cX5_keepTurn 46 = .ok (.isub, 1) := by decide +kernel
theorem dX5_keepTurn_47 : decode cX5_keepTurn 47 = .ok (.putfield 218, 3) := by decide +kernel
theorem dX5_keepTurn_50 : decode cX5_keepTurn 50 = .ok (.aload_n 0, 1) := by decide +kernel
theorem dX5_keepTurn_51 : decode cX5_keepTurn 51 = .ok (.aload_n 0, 1) := by decide +kernel
theorem dX5_keepTurn_52 : decode cX5_keepTurn 52 = .ok (.getfield 55, 3) := by decide +kernel
theorem dX5_keepTurn_55 : decode cX5_keepTurn 55 = .ok (.iconst 1, 1) := by decide +kernel
theorem dX5_keepTurn_56 : decode cX5_keepTurn 56 = .ok (.invokevirtual 233, 3) := by decide +kernel
theorem dX5_keepTurn_59 : decode cX5_keepTurn 59 = .ok (.iconst 0, 1) := by decide +kernel
theorem dX5_keepTurn_60 : decode cX5_keepTurn 60 = .ok (.istore_n 1, 1) := by decide +kernel
theorem dX5_keepTurn_61 : decode cX5_keepTurn 61 = .ok (.iload_n 1, 1) := by decide +kernel
theorem dX5_keepTurn_62 : decode cX5_keepTurn 62 = .ok (.bipush 44, 2) := by decide +kernel
theorem dX5_keepTurn_64 : decode cX5_keepTurn 64 = .ok (.if_icmp .ge 29, 3) := by decide +kernel
theorem dX5_keepTurn_67 : decode cX5_keepTurn 67 = .ok (.aload_n 0, 1) := by decide +kernel
theorem dX5_keepTurn_68 : decode cX5_keepTurn 68 = .ok (.getfield 52, 3) := by decide +kernel
theorem dX5_keepTurn_71 : decode cX5_keepTurn 71 = .ok (.bipush 44, 2) := by decide +kernel
theorem dX5_keepTurn_73 : decode cX5_keepTurn 73 = .ok (.aload_n 0, 1) := by decide +kernel
theorem dX5_keepTurn_74 : decode cX5_keepTurn 74 = .ok (.getfield 218, 3) := by decide +kernel
theorem dX5_keepTurn_77 : decode cX5_keepTurn 77 = .ok (.imul, 1) := by decide +kernel
theorem dX5_keepTurn_78 : decode cX5_keepTurn 78 = .ok (.iload_n 1, 1) := by decide +kernel
theorem dX5_keepTurn_79 : decode cX5_keepTurn 79 = .ok (.iadd, 1) := by decide +kernel
theorem dX5_keepTurn_80 : decode cX5_keepTurn 80 = .ok (.aload_n 0, 1) := by decide +kernel
theorem dX5_keepTurn_81 : decode cX5_keepTurn 81 = .ok (.getfield 55, 3) := by decide +kernel
theorem dX5_keepTurn_84 : decode cX5_keepTurn 84 = .ok (.iload_n 1, 1) := by decide +kernel
theorem dX5_keepTurn_85 : decode cX5_keepTurn 85 = .ok (.iaload, 1) := by decide +kernel
theorem dX5_keepTurn_86 : decode cX5_keepTurn 86 = .ok (.iastore, 1) := by decide +kernel
theorem dX5_keepTurn_87 : decode cX5_keepTurn 87 = .ok (.iinc 1 1, 3) := by decide +kernel
theorem dX5_keepTurn_90 : decode cX5_keepTurn 90 = .ok (.goto (-29), 3) := by decide +kernel
theorem dX5_keepTurn_93 : decode cX5_keepTurn 93 = .ok (.aload_n 0, 1) := by decide +kernel
theorem dX5_keepTurn_94 : decode cX5_keepTurn 94 = .ok (.dup, 1) := by decide +kernel
theorem dX5_keepTurn_95 : decode cX5_keepTurn 95 = .ok (.getfield 218, 3) := by decide +kernel
theorem dX5_keepTurn_98 : decode cX5_keepTurn 98 = .ok (.iconst 1, 1) := by decide +kernel
theorem dX5_keepTurn_99 : decode cX5_keepTurn 99 = .ok (.iadd, 1) := by decide +kernel
theorem dX5_keepTurn_100 : decode cX5_keepTurn 100 = .ok (.putfield 218, 3) := by decide +kernel
theorem dX5_keepTurn_103 : decode cX5_keepTurn 103 = .ok (.return_, 1) := by decide +kernel
abbrev A5_keepTurn (G : GG) (Q : MM → Prop) := AW G E0 (MZ G (qV Q)) (WY yX5_keepTurn cX5_keepTurn 2 none) RX5 cX5_keepTurn 2 none ({ frames := 2, cells := 0, slots := 0, locals := 44 } : Room) 0 0
def D5_keepTurn_c93 (Q : MM → Prop) (M : MM) : Prop := (fun M8 : MM => Q M8) (up M 62 32 ((M 62 32) + (1 : Int32)))
def D5_keepTurn_c61 (Q : MM → Prop) : Nat → Int32 → MM → Prop
  | 0, _, _ => False
  | n + 1, x1, M => (((44 : Int32) ≤ x1 → D5_keepTurn_c93 Q M) ∧ (¬ (44 : Int32) ≤ x1 → ib 78 x1 ∧ ib 77 (((44 : Int32) * (M 62 32)) + x1) ∧ (fun M5 : MM => (fun v6 : Int32 => D5_keepTurn_c61 Q n v6 M5) (x1 + (1 : Int32))) (up M 77 (ix (((44 : Int32) * (M 62 32)) + x1)) (M 78 (ix x1)))))
def D5_keepTurn_c50 (Q : MM → Prop) (M : MM) : Prop := D5_carryAll 78 (1 : Int32) M (fun (M2 : MM) => D5_keepTurn_c61 Q FU (0 : Int32) M2)
def D5_keepTurn_c40 (Q : MM → Prop) (M : MM) : Prop := (fun M7 : MM => D5_keepTurn_c50 Q M7) (up M 62 32 ((M 62 32) - (1 : Int32)))
def D5_keepTurn_c12 (Q : MM → Prop) : Nat → Int32 → MM → Prop
  | 0, _, _ => False
  | n + 1, x1, M => (((352 : Int32) ≤ x1 → D5_keepTurn_c40 Q M) ∧ (¬ (352 : Int32) ≤ x1 → ib 77 x1 ∧ ib 77 (x1 - (44 : Int32)) ∧ (fun M3 : MM => (fun v4 : Int32 => D5_keepTurn_c12 Q n v4 M3) (x1 + (1 : Int32))) (up M 77 (ix (x1 - (44 : Int32))) (M 77 (ix x1)))))
def D5_keepTurn (M : MM) (Q : MM → Prop) : Prop := (((M 62 32) ≠ (8 : Int32) → D5_keepTurn_c50 Q M) ∧ ((M 62 32) = (8 : Int32) → D5_keepTurn_c12 Q FU (44 : Int32) M))
set_option maxHeartbeats 4000000 in
set_option maxRecDepth 100000 in
theorem s5_keepTurn_c93 {G : GG} {Q : MM → Prop} : ∀  (M : MM), D5_keepTurn_c93 Q M → A5_keepTurn G Q 93 [(0, .ref (gA G 62))] [] M := by
  intro  M h
  unfold D5_keepTurn_c93 at h
  refine a_aload_n dX5_keepTurn_93 0 rfl ?_
  refine a_dup dX5_keepTurn_94 rfl ?_
  refine a_get3 dX5_keepTurn_95 32 (by decide) (tbc _ kF_RX5_218) (fun w h => tbc _ (uW3 w h)) rfl ob_62 rfl ?_
  refine a_iconst (v := 1) dX5_keepTurn_98 (by decide) ?_
  refine a_iadd dX5_keepTurn_99 ?_
  refine a_put3 dX5_keepTurn_100 32 (by decide) (tbc _ kF_RX5_218) (fun w h => tbc _ (uW3 w h)) rfl rfl rfl rfl ob_62 fs3_32 ?_
  exact a_vret dX5_keepTurn_103 ⟨rfl, h⟩
set_option maxHeartbeats 4000000 in
set_option maxRecDepth 100000 in
theorem s5_keepTurn_c61 {G : GG} {Q : MM → Prop} : ∀ (n : Nat) (x1 : Int32) (M : MM), D5_keepTurn_c61 Q n x1 M → A5_keepTurn G Q 61 [(0, .ref (gA G 62)), (1, .int x1)] [] M := by
  intro n
  induction n with
  | zero => intro x1 M h; exact h.elim
  | succ n ih =>
    intro x1 M h
    unfold D5_keepTurn_c61 at h
    refine a_iload_n dX5_keepTurn_61 1 rfl ?_
    refine a_bipush (v := 44) dX5_keepTurn_62 (by decide) ?_
    refine a_icmp_ge (tgt := 93) dX5_keepTurn_64 (by decide) (fun c => ?_) (fun c => ?_)
    · have h := h.1 c
      refine a_sub [0] rfl ?_
      exact s5_keepTurn_c93 _ h
    · have h := h.2 c
      refine a_aload_n dX5_keepTurn_67 0 rfl ?_
      refine a_get3 dX5_keepTurn_68 30 (by decide) (tbc _ kF_RX5_52) (fun w h => tbc _ (uW3 w h)) rfl ob_62 rfl ?_
      refine a_bipush (v := 44) dX5_keepTurn_71 (by decide) ?_
      refine a_aload_n dX5_keepTurn_73 0 rfl ?_
      refine a_get3 dX5_keepTurn_74 32 (by decide) (tbc _ kF_RX5_218) (fun w h => tbc _ (uW3 w h)) rfl ob_62 rfl ?_
      refine a_imul dX5_keepTurn_77 ?_
      refine a_iload_n dX5_keepTurn_78 1 rfl ?_
      refine a_iadd dX5_keepTurn_79 ?_
      refine a_aload_n dX5_keepTurn_80 0 rfl ?_
      refine a_get3 dX5_keepTurn_81 31 (by decide) (tbc _ kF_RX5_55) (fun w h => tbc _ (uW3 w h)) rfl ob_62 rfl ?_
      refine a_iload_n dX5_keepTurn_84 1 rfl ?_
      refine a_iald dX5_keepTurn_85 h.1 ?_
      have h := h.2
      refine a_iast dX5_keepTurn_86 h.1 ?_
      have h := h.2
      refine a_iinc (L' := [(1, .int _), (0, .ref _)]) dX5_keepTurn_87 1 rfl (show _ + Int32.ofInt (1 : Int) = _ + (1 : Int32) from rfl) (by decide) rfl ?_
      refine a_goto (tgt := 61) dX5_keepTurn_90 (by decide) ?_
      refine a_sub [1, 0] rfl ?_
      exact ih _ _ h
set_option maxHeartbeats 4000000 in
set_option maxRecDepth 100000 in
theorem s5_keepTurn_c50 {G : GG} {Q : MM → Prop} : ∀  (M : MM), D5_keepTurn_c50 Q M → A5_keepTurn G Q 50 [(0, .ref (gA G 62))] [] M := by
  intro  M h
  unfold D5_keepTurn_c50 at h
  refine a_aload_n dX5_keepTurn_50 0 rfl ?_
  refine a_aload_n dX5_keepTurn_51 0 rfl ?_
  refine a_get3 dX5_keepTurn_52 31 (by decide) (tbc _ kF_RX5_55) (fun w h => tbc _ (uW3 w h)) rfl ob_62 rfl ?_
  refine a_iconst (v := 1) dX5_keepTurn_55 (by decide) ?_
  refine a_callVv (n := 2) [.ref _, .int _] (C := RX5) (ci := 3) (qc := (RX5, TX5, 40)) (fsF := fl3 G _) ob_62.1 (fun _ => en3 ob_62.2) rfl rfl dX5_keepTurn_56 (s5_carryAll h) (gV tbc kM_RX5_233_X5_carryAll kI_X5_carryAll kS_X5_carryAll kN_RX5 kC_X5_carryAll) rfl (by decide +kernel) ⟨Nat.le_of_ble_eq_true rfl, Nat.le_of_ble_eq_true rfl⟩ rfl rfl (Nat.le_of_ble_eq_true rfl) ⟨Nat.le_refl 0, Nat.le_refl 0⟩ (fun M h => ?_)
  refine a_iconst (v := 0) dX5_keepTurn_59 (by decide) ?_
  refine a_istore_n (i := 1) (L' := [(1, .int _), (0, .ref _)]) dX5_keepTurn_60 rfl (by decide) rfl ?_
  refine a_sub [1, 0] rfl ?_
  exact s5_keepTurn_c61 _ _ _ h
set_option maxHeartbeats 4000000 in
set_option maxRecDepth 100000 in
theorem s5_keepTurn_c40 {G : GG} {Q : MM → Prop} : ∀  (M : MM), D5_keepTurn_c40 Q M → A5_keepTurn G Q 40 [(0, .ref (gA G 62))] [] M := by
  intro  M h
  unfold D5_keepTurn_c40 at h
  refine a_aload_n dX5_keepTurn_40 0 rfl ?_
  refine a_dup dX5_keepTurn_41 rfl ?_
  refine a_get3 dX5_keepTurn_42 32 (by decide) (tbc _ kF_RX5_218) (fun w h => tbc _ (uW3 w h)) rfl ob_62 rfl ?_
  refine a_iconst (v := 1) dX5_keepTurn_45 (by decide) ?_
  refine a_isub dX5_keepTurn_46 ?_
  refine a_put3 dX5_keepTurn_47 32 (by decide) (tbc _ kF_RX5_218) (fun w h => tbc _ (uW3 w h)) rfl rfl rfl rfl ob_62 fs3_32 ?_
  refine a_sub [0] rfl ?_
  exact s5_keepTurn_c50 _ h
set_option maxHeartbeats 4000000 in
set_option maxRecDepth 100000 in
theorem s5_keepTurn_c12 {G : GG} {Q : MM → Prop} : ∀ (n : Nat) (x1 : Int32) (M : MM), D5_keepTurn_c12 Q n x1 M → A5_keepTurn G Q 12 [(0, .ref (gA G 62)), (1, .int x1)] [] M := by
  intro n
  induction n with
  | zero => intro x1 M h; exact h.elim
  | succ n ih =>
    intro x1 M h
    unfold D5_keepTurn_c12 at h
    refine a_iload_n dX5_keepTurn_12 1 rfl ?_
    refine a_sipush (v := 352) dX5_keepTurn_13 (by decide) ?_
    refine a_icmp_ge (tgt := 40) dX5_keepTurn_16 (by decide) (fun c => ?_) (fun c => ?_)
    · have h := h.1 c
      refine a_sub [0] rfl ?_
      exact s5_keepTurn_c40 _ h
    · have h := h.2 c
      refine a_aload_n dX5_keepTurn_19 0 rfl ?_
      refine a_get3 dX5_keepTurn_20 30 (by decide) (tbc _ kF_RX5_52) (fun w h => tbc _ (uW3 w h)) rfl ob_62 rfl ?_
      refine a_iload_n dX5_keepTurn_23 1 rfl ?_
      refine a_bipush (v := 44) dX5_keepTurn_24 (by decide) ?_
      refine a_isub dX5_keepTurn_26 ?_
      refine a_aload_n dX5_keepTurn_27 0 rfl ?_
      refine a_get3 dX5_keepTurn_28 30 (by decide) (tbc _ kF_RX5_52) (fun w h => tbc _ (uW3 w h)) rfl ob_62 rfl ?_
      refine a_iload_n dX5_keepTurn_31 1 rfl ?_
      refine a_iald dX5_keepTurn_32 h.1 ?_
      have h := h.2
      refine a_iast dX5_keepTurn_33 h.1 ?_
      have h := h.2
      refine a_iinc (L' := [(1, .int _), (0, .ref _)]) dX5_keepTurn_34 1 rfl (show _ + Int32.ofInt (1 : Int) = _ + (1 : Int32) from rfl) (by decide) rfl ?_
      refine a_goto (tgt := 12) dX5_keepTurn_37 (by decide) ?_
      refine a_sub [1, 0] rfl ?_
      exact ih _ _ h
set_option maxHeartbeats 4000000 in
set_option maxRecDepth 100000 in
theorem s5_keepTurn {G : GG} {M : MM} {Q : MM → Prop} (h : D5_keepTurn M Q) : CM G yX5_keepTurn (WY yX5_keepTurn cX5_keepTurn 2 none) 2 44 [.ref (gA G 62)] M (qV Q) := by
  refine CM.of (cc := cX5_keepTurn) (nL := 2) (ret := none) (own := RX5) (by decide +kernel) rfl rfl (Nat.le_of_ble_eq_true rfl) ?_
  show A5_keepTurn G Q 0 [(0, .ref (gA G 62))] [] M
  unfold D5_keepTurn at h
  refine a_aload_n dX5_keepTurn_0 0 rfl ?_
  refine a_get3 dX5_keepTurn_1 32 (by decide) (tbc _ kF_RX5_218) (fun w h => tbc _ (uW3 w h)) rfl ob_62 rfl ?_
  refine a_bipush (v := 8) dX5_keepTurn_4 (by decide) ?_
  refine a_icmp_ne (tgt := 50) dX5_keepTurn_6 (by decide) (fun c => ?_) (fun c => ?_)
  · have h := h.1 c
    refine a_sub [0] rfl ?_
    exact s5_keepTurn_c50 _ h
  · have h := h.2 c
    refine a_bipush (v := 44) dX5_keepTurn_9 (by decide) ?_
    refine a_istore_n (i := 1) (L' := [(1, .int _), (0, .ref _)]) dX5_keepTurn_11 rfl (by decide) rfl ?_
    refine a_sub [1, 0] rfl ?_
    exact s5_keepTurn_c12 _ _ _ h

/-! X5_fixes -/
theorem dX5_fixes_0 : decode cX5_fixes 0 = .ok (.aload_n 0, 1) := by decide +kernel
theorem dX5_fixes_1 : decode cX5_fixes 1 = .ok (.iconst 0, 1) := by decide +kernel
theorem dX5_fixes_2 : decode cX5_fixes 2 = .ok (.putfield 73, 3) := by decide +kernel
theorem dX5_fixes_5 : decode cX5_fixes 5 = .ok (.aload_n 0, 1) := by decide +kernel
theorem dX5_fixes_6 : decode cX5_fixes 6 = .ok (.iload_n 1, 1) := by decide +kernel
theorem dX5_fixes_7 : decode cX5_fixes 7 = .ok (.invokevirtual 182, 3) := by decide +kernel
theorem dX5_fixes_10 : decode cX5_fixes 10 = .ok (.ifCond .ne 7, 3) := by decide +kernel
theorem dX5_fixes_13 : decode cX5_fixes 13 = .ok (.iconst (-1), 1) := by decide +kernel
theorem dX5_fixes_14 : decode cX5_fixes 14 = .ok (.goto 19, 3) := by decide +kernel
theorem dX5_fixes_17 : decode cX5_fixes 17 = .ok (.aload_n 0, 1) := by decide +kernel
theorem dX5_fixes_18 : decode cX5_fixes 18 = .ok (.getfield 22, 3) := by decide +kernel
theorem dX5_fixes_21 : decode cX5_fixes 21 = .ok (.iload_n 1, 1) := by decide +kernel
theorem dX5_fixes_22 : decode cX5_fixes 22 = .ok (.iaload, 1) := by decide +kernel
theorem dX5_fixes_23 : decode cX5_fixes 23 = .ok (.iconst 1, 1) := by decide +kernel
theorem dX5_fixes_24 : decode cX5_fixes 24 = .ok (.if_icmp .ne 8, 3) := by decide +kernel
theorem dX5_fixes_27 : decode cX5_fixes 27 = .ok (.bipush (-3), 2) := by decide +kernel
theorem dX5_fixes_29 : decode cX5_fixes 29 = .ok (.goto 4, 3) := by decide +kernel
theorem dX5_fixes_32 : decode cX5_fixes 32 = .ok (.iconst 0, 1) := by decide +kernel
theorem dX5_fixes_33 : decode cX5_fixes 33 = .ok (.istore_n 2, 1) := by decide +kernel
theorem dX5_fixes_34 : decode cX5_fixes 34 = .ok (.iload_n 2, 1) := by decide +kernel
theorem dX5_fixes_35 : decode cX5_fixes 35 = .ok (.ifCond .ge 9, 3) := by decide +kernel
theorem dX5_fixes_38 : decode cX5_fixes 38 = .ok (.aload_n 0, 1) := by decide +kernel
theorem dX5_fixes_39 : decode cX5_fixes 39 = .ok (.iload_n 2, 1) := by decide +kernel
theorem dX5_fixes_40 : decode cX5_fixes 40 = .ok (.invokevirtual 149, 3) := by decide +kernel
theorem dX5_fixes_43 : decode cX5_fixes 43 = .ok (.ireturn, 1) := by decide +kernel
theorem dX5_fixes_44 : decode cX5_fixes 44 = .ok (.aload_n 0, 1) := by decide +kernel
theorem dX5_fixes_45 : decode cX5_fixes 45 = .ok (.invokevirtual 248, 3) := by decide +kernel
theorem dX5_fixes_48 : decode cX5_fixes 48 = .ok (.aload_n 0, 1) := by decide +kernel
theorem dX5_fixes_49 : decode cX5_fixes 49 = .ok (.getfield 19, 3) := by decide +kernel
theorem dX5_fixes_52 : decode cX5_fixes 52 = .ok (.iload_n 1, 1) := by decide +kernel
theorem dX5_fixes_53 : decode cX5_fixes 53 = .ok (.iaload, 1) := by decide +kernel
theorem dX5_fixes_54 : decode cX5_fixes 54 = .ok (.istore_n 3, 1) := by decide +kernel
theorem dX5_fixes_55 : decode cX5_fixes 55 = .ok (.aload_n 0, 1) := by decide +kernel
theorem dX5_fixes_56 : decode cX5_fixes 56 = .ok (.getfield 19, 3) := by decide +kernel
theorem dX5_fixes_59 : decode cX5_fixes 59 = .ok (.iload_n 1, 1) := by decide +kernel
theorem dX5_fixes_60 : decode cX5_fixes 60 = .ok (.iconst 0, 1) := by decide +kernel
theorem dX5_fixes_61 : decode cX5_fixes 61 = .ok (.iastore, 1) := by decide +kernel
theorem dX5_fixes_62 : decode cX5_fixes 62 = .ok (.iload_n 3, 1) := by decide +kernel
theorem dX5_fixes_63 : decode cX5_fixes 63 = .ok (.ireturn, 1) := by decide +kernel
abbrev A5_fixes (G : GG) (Q : Int32 → MM → Prop) := AW G E0 (MZ G (qI Q)) (WY yX5_fixes cX5_fixes 4 (some .int)) RX5 cX5_fixes 4 (some .int) ({ frames := 3, cells := 0, slots := 0, locals := 65 } : Room) 0 0
def D5_fixes_c33 (Q : Int32 → MM → Prop) (x1 : Int32) (s0 : Int32) (M : MM) : Prop := ((0 ≤ s0 → D5_keepTurn M (fun (M5 : MM) => ib 66 x1 ∧ (fun v6 : Int32 => ib 66 x1 ∧ (fun M7 : MM => Q v6 M7) (up M5 66 (ix x1) (0 : Int32))) (M5 66 (ix x1)))) ∧ (¬ 0 ≤ s0 → D5_refuse s0 M (fun (r8 : Int32) (M9 : MM) => Q r8 M9)))
def D5_fixes (x1 : Int32) (M : MM) (Q : Int32 → MM → Prop) : Prop := (fun M1 : MM => D5_isWork x1 M1 (fun (r2 : Int32) (M3 : MM) => ((r2 ≠ 0 → ib 67 x1 ∧ (((M3 67 (ix x1)) ≠ (1 : Int32) → D5_fixes_c33 Q x1 (0 : Int32) M3) ∧ ((M3 67 (ix x1)) = (1 : Int32) → D5_fixes_c33 Q x1 (-3 : Int32) M3))) ∧ (r2 = 0 → D5_fixes_c33 Q x1 (-1 : Int32) M3)))) (up M 62 9 (0 : Int32))
set_option maxHeartbeats 4000000 in
set_option maxRecDepth 100000 in
theorem s5_fixes_c33 {G : GG} {Q : Int32 → MM → Prop} : ∀ (x1 : Int32) (s0 : Int32) (M : MM), D5_fixes_c33 Q x1 s0 M → A5_fixes G Q 33 [(0, .ref (gA G 62)), (1, .int x1)] [.int s0] M := by
  intro x1 s0 M h
  unfold D5_fixes_c33 at h
  refine a_istore_n (i := 2) (L' := [(2, .int _), (0, .ref _), (1, .int _)]) dX5_fixes_33 rfl (by decide) rfl ?_
  refine a_iload_n dX5_fixes_34 0 rfl ?_
  refine a_if_ge (tgt := 44) dX5_fixes_35 (by decide) (fun c => ?_) (fun c => ?_)
  · have h := h.1 c
    refine a_aload_n dX5_fixes_44 1 rfl ?_
    refine a_callVv (n := 0) [] (C := RX5) (ci := 3) (qc := (RX5, TX5, 40)) (fsF := fl3 G _) ob_62.1 (fun _ => en3 ob_62.2) rfl rfl dX5_fixes_45 (s5_keepTurn h) (gV tbc kM_RX5_248_X5_keepTurn kI_X5_keepTurn kS_X5_keepTurn kN_RX5 kC_X5_keepTurn) rfl (by decide +kernel) ⟨Nat.le_of_ble_eq_true rfl, Nat.le_of_ble_eq_true rfl⟩ rfl rfl (Nat.le_of_ble_eq_true rfl) ⟨Nat.le_refl 0, Nat.le_refl 0⟩ (fun M h => ?_)
    refine a_aload_n dX5_fixes_48 1 rfl ?_
    refine a_get3 dX5_fixes_49 4 (by decide) (tbc _ kF_RX5_19) (fun w h => tbc _ (uW3 w h)) rfl ob_62 rfl ?_
    refine a_iload_n dX5_fixes_52 2 rfl ?_
    refine a_iald dX5_fixes_53 h.1 ?_
    have h := h.2
    refine a_istore_n (i := 3) (L' := [(3, .int _), (2, .int _), (0, .ref _), (1, .int _)]) dX5_fixes_54 rfl (by decide) rfl ?_
    refine a_aload_n dX5_fixes_55 2 rfl ?_
    refine a_get3 dX5_fixes_56 4 (by decide) (tbc _ kF_RX5_19) (fun w h => tbc _ (uW3 w h)) rfl ob_62 rfl ?_
    refine a_iload_n dX5_fixes_59 3 rfl ?_
    refine a_iconst (v := 0) dX5_fixes_60 (by decide) ?_
    refine a_iast dX5_fixes_61 h.1 ?_
    have h := h.2
    refine a_iload_n dX5_fixes_62 0 rfl ?_
    exact a_iret dX5_fixes_63 ⟨_, rfl, h⟩
  · have h := h.2 c
    refine a_aload_n dX5_fixes_38 1 rfl ?_
    refine a_iload_n dX5_fixes_39 0 rfl ?_
    refine a_callVi (n := 1) [.int _] (C := RX5) (ci := 3) (qc := (RX5, TX5, 40)) (fsF := fl3 G _) ob_62.1 (fun _ => en3 ob_62.2) rfl rfl dX5_fixes_40 (s5_refuse h) (gV tbc kM_RX5_149_X5_refuse kI_X5_refuse kS_X5_refuse kN_RX5 kC_X5_refuse) rfl (by decide +kernel) ⟨Nat.le_of_ble_eq_true rfl, Nat.le_of_ble_eq_true rfl⟩ rfl rfl (Nat.le_of_ble_eq_true rfl) ⟨Nat.le_refl 0, Nat.le_refl 0⟩ (fun r M h => ?_)
    exact a_iret dX5_fixes_43 ⟨_, rfl, h⟩
set_option maxHeartbeats 4000000 in
set_option maxRecDepth 100000 in
theorem s5_fixes {G : GG} {x1 : Int32} {M : MM} {Q : Int32 → MM → Prop} (h : D5_fixes x1 M Q) : CM G yX5_fixes (WY yX5_fixes cX5_fixes 4 (some .int)) 3 65 [.ref (gA G 62), .int x1] M (qI Q) := by
  refine CM.of (cc := cX5_fixes) (nL := 4) (ret := (some .int)) (own := RX5) (by decide +kernel) rfl rfl (Nat.le_of_ble_eq_true rfl) ?_
  show A5_fixes G Q 0 [(0, .ref (gA G 62)), (1, .int x1)] [] M
  unfold D5_fixes at h
  refine a_aload_n dX5_fixes_0 0 rfl ?_
  refine a_iconst (v := 0) dX5_fixes_1 (by decide) ?_
  refine a_put3 dX5_fixes_2 9 (by decide) (tbc _ kF_RX5_73) (fun w h => tbc _ (uW3 w h)) rfl rfl rfl rfl ob_62 fs3_9 ?_
  refine a_aload_n dX5_fixes_5 0 rfl ?_
  refine a_iload_n dX5_fixes_6 1 rfl ?_
  refine a_callVi (n := 1) [.int _] (C := RX5) (ci := 3) (qc := (RX5, TX5, 40)) (fsF := fl3 G _) ob_62.1 (fun _ => en3 ob_62.2) rfl rfl dX5_fixes_7 (s5_isWork h) (gV tbc kM_RX5_182_X5_isWork kI_X5_isWork kS_X5_isWork kN_RX5 kC_X5_isWork) rfl (by decide +kernel) ⟨Nat.le_of_ble_eq_true rfl, Nat.le_of_ble_eq_true rfl⟩ rfl rfl (Nat.le_of_ble_eq_true rfl) ⟨Nat.le_refl 0, Nat.le_refl 0⟩ (fun r M h => ?_)
  refine a_if_ne (tgt := 17) dX5_fixes_10 (by decide) (fun c => ?_) (fun c => ?_)
  · have h := h.1 c
    refine a_aload_n dX5_fixes_17 0 rfl ?_
    refine a_get3 dX5_fixes_18 5 (by decide) (tbc _ kF_RX5_22) (fun w h => tbc _ (uW3 w h)) rfl ob_62 rfl ?_
    refine a_iload_n dX5_fixes_21 1 rfl ?_
    refine a_iald dX5_fixes_22 h.1 ?_
    have h := h.2
    refine a_iconst (v := 1) dX5_fixes_23 (by decide) ?_
    refine a_icmp_ne (tgt := 32) dX5_fixes_24 (by decide) (fun c => ?_) (fun c => ?_)
    · have h := h.1 c
      refine a_iconst (v := 0) dX5_fixes_32 (by decide) ?_
      refine a_sub [0, 1] rfl ?_
      exact s5_fixes_c33 _ _ _ h
    · have h := h.2 c
      refine a_bipush (v := -3) dX5_fixes_27 (by decide) ?_
      refine a_goto (tgt := 33) dX5_fixes_29 (by decide) ?_
      refine a_sub [0, 1] rfl ?_
      exact s5_fixes_c33 _ _ _ h
  · have h := h.2 c
    refine a_iconst (v := -1) dX5_fixes_13 (by decide) ?_
    refine a_goto (tgt := 33) dX5_fixes_14 (by decide) ?_
    refine a_sub [0, 1] rfl ?_
    exact s5_fixes_c33 _ _ _ h

/-! X5_floods -/
theorem dX5_floods_0 : decode cX5_floods 0 = .ok (.aload_n 0, 1) := by decide +kernel
theorem dX5_floods_1 : decode cX5_floods 1 = .ok (.iconst 0, 1) := by decide +kernel
theorem dX5_floods_2 : decode cX5_floods 2 = .ok (.putfield 73, 3) := by decide +kernel
theorem dX5_floods_5 : decode cX5_floods 5 = .ok (.iload_n 1, 1) := by decide +kernel
theorem dX5_floods_6 : decode cX5_floods 6 = .ok (.invokestatic 185, 3) := by decide +kernel
theorem dX5_floods_9 : decode cX5_floods 9 = .ok (.ifCond .ne 9, 3) := by decide +kernel
theorem dX5_floods_12 : decode cX5_floods 12 = .ok (.aload_n 0, 1) := by decide +kernel
theorem dX5_floods_13 : decode cX5_floods 13 = .ok (.iconst (-1), 1) := by decide +kernel
theorem dX5_floods_14 : decode cX5_floods 14 = .ok (.invokevirtual 149, 3) := by decide +kernel
theorem dX5_floods_17 : decode cX5_floods 17 = .ok (.ireturn, 1) := by decide +kernel
theorem dX5_floods_18 : decode cX5_floods 18 = .ok (.bipush (-9), 2) := by decide +kernel
theorem dX5_floods_20 : decode cX5_floods 20 = .ok (.istore_n 2, 1) := by decide +kernel
theorem dX5_floods_21 : decode cX5_floods 21 = .ok (.aload_n 0, 1) := by decide +kernel
theorem dX5_floods_22 : decode cX5_floods 22 = .ok (.invokevirtual 209, 3) := by decide +kernel
theorem dX5_floods_25 : decode cX5_floods 25 = .ok (.iconst 0, 1) := by decide +kernel
theorem dX5_floods_26 : decode cX5_floods 26 = .ok (.istore_n 3, 1) := by decide +kernel
theorem dX5_floods_27 : decode cX5_floods 27 = .ok (.iload_n 3, 1) := by decide +kernel
theorem dX5_floods_28 : decode cX5_floods 28 = .ok (.bipush 60, 2) := by decide +kernel
theorem dX5_floods_30 : decode cX5_floods 30 = .ok (.if_icmp .gt 36, 3) := by decide +kernel
theorem dX5_floods_33 : decode cX5_floods 33 = .ok (.iload_n 2, 1) := by decide +kernel
theorem dX5_floods_34 : decode cX5_floods 34 = .ok (.ifCond .ge 32, 3) := by decide +kernel
theorem dX5_floods_37 : decode cX5_floods 37 = .ok (.aload_n 0, 1) := by decide +kernel
theorem dX5_floods_38 : decode cX5_floods 38 = .ok (.invokevirtual 257, 3) := by decide +kernel
theorem dX5_floods_41 : decode cX5_floods 41 = .ok (.iload_n 1, 1) := by decide +kernel
theorem dX5_floods_42 : decode cX5_floods 42 = .ok (.invokestatic 93, 3) := by decide +kernel
theorem dX5_floods_45 : decode cX5_floods 45 = .ok (.ifCond .eq 7, 3) := by decide +kernel
theorem dX5_floods_48 : decode cX5_floods 48 = .ok (.iload_n 3, 1) := by decide +kernel
theorem dX5_floods_49 : decode cX5_floods 49 = .ok (.goto 5, 3) := by decide +kernel
theorem dX5_floods_52 : decode cX5_floods 52 = .ok (.bipush (-9), 2) := by decide +kernel
theorem dX5_floods_54 : decode cX5_floods 54 = .ok (.istore_n 2, 1) := by decide +kernel
theorem dX5_floods_55 : decode cX5_floods 55 = .ok (.aload_n 0, 1) := by decide +kernel
theorem dX5_floods_56 : decode cX5_floods 56 = .ok (.iconst 0, 1) := by decide +kernel
theorem dX5_floods_57 : decode cX5_floods 57 = .ok (.invokevirtual 146, 3) := by decide +kernel
theorem dX5_floods_60 : decode cX5_floods 60 = .ok (.iinc 3 1, 3) := by decide +kernel
theorem dX5_floods_63 : decode cX5_floods 63 = .ok (.goto (-36), 3) := by decide +kernel
theorem dX5_floods_66 : decode cX5_floods 66 = .ok (.aload_n 0, 1) := by decide +kernel
theorem dX5_floods_67 : decode cX5_floods 67 = .ok (.invokevirtual 215, 3) := by decide +kernel
theorem dX5_floods_70 : decode cX5_floods 70 = .ok (.iload_n 2, 1) := by decide +kernel
theorem dX5_floods_71 : decode cX5_floods 71 = .ok (.ireturn, 1) := by decide +kernel
abbrev A5_floods (G : GG) (Q : Int32 → MM → Prop) := AW G E0 (MZ G (qI Q)) (WY yX5_floods cX5_floods 4 (some .int)) RX5 cX5_floods 4 (some .int) ({ frames := 4, cells := 0, slots := 0, locals := 89 } : Room) 0 0
def D5_floods_c54 (K27 : Int32 → Int32 → Int32 → MM → Prop) (Q : Int32 → MM → Prop) (x1 : Int32) (x3 : Int32) (s0 : Int32) (M : MM) : Prop := D5_hourBy (0 : Int32) M (fun (M15 : MM) => (fun v16 : Int32 => K27 x1 s0 v16 M15) (x3 + (1 : Int32)))
def D5_floods_c66 (Q : Int32 → MM → Prop) (x2 : Int32) (M : MM) : Prop := D5_again M (fun (M13 : MM) => Q x2 M13)
def D5_floods_c27 (Q : Int32 → MM → Prop) : Nat → Int32 → Int32 → Int32 → MM → Prop
  | 0, _, _, _, _ => False
  | n + 1, x1, x2, x3, M => (((60 : Int32) < x3 → D5_floods_c66 Q x2 M) ∧ (¬ (60 : Int32) < x3 → ((0 ≤ x2 → D5_floods_c66 Q x2 M) ∧ (¬ 0 ≤ x2 → D5_wetNow M (fun (r8 : Int32) (M9 : MM) => D5_hasBit r8 x1 M9 (fun (r10 : Int32) (M11 : MM) => ((r10 = 0 → D5_floods_c54 (D5_floods_c27 Q n) Q x1 x3 (-9 : Int32) M11) ∧ (¬ r10 = 0 → D5_floods_c54 (D5_floods_c27 Q n) Q x1 x3 x3 M11))))))))
def D5_floods (x1 : Int32) (M : MM) (Q : Int32 → MM → Prop) : Prop := (fun M1 : MM => D5_isCell x1 M1 (fun (r2 : Int32) (M3 : MM) => ((r2 ≠ 0 → D5_think M3 (fun (M5 : MM) => D5_floods_c27 Q FU x1 (-9 : Int32) (0 : Int32) M5)) ∧ (r2 = 0 → D5_refuse (-1 : Int32) M3 (fun (r6 : Int32) (M7 : MM) => Q r6 M7))))) (up M 62 9 (0 : Int32))
set_option maxHeartbeats 4000000 in
set_option maxRecDepth 100000 in
theorem s5_floods_c54 {G : GG} {K27 : Int32 → Int32 → Int32 → MM → Prop} {Q : Int32 → MM → Prop} (hK27 : ∀ (x1 : Int32) (x2 : Int32) (x3 : Int32) (M : MM), K27 x1 x2 x3 M → A5_floods G Q 27 [(0, .ref (gA G 62)), (1, .int x1), (2, .int x2), (3, .int x3)] [] M) : ∀ (x1 : Int32) (x3 : Int32) (s0 : Int32) (M : MM), D5_floods_c54 K27 Q x1 x3 s0 M → A5_floods G Q 54 [(0, .ref (gA G 62)), (1, .int x1), (3, .int x3)] [.int s0] M := by
  intro x1 x3 s0 M h
  unfold D5_floods_c54 at h
  refine a_istore_n (i := 2) (L' := [(2, .int _), (0, .ref _), (1, .int _), (3, .int _)]) dX5_floods_54 rfl (by decide) rfl ?_
  refine a_aload_n dX5_floods_55 1 rfl ?_
  refine a_iconst (v := 0) dX5_floods_56 (by decide) ?_
  refine a_callVv (n := 1) [.int _] (C := RX5) (ci := 3) (qc := (RX5, TX5, 40)) (fsF := fl3 G _) ob_62.1 (fun _ => en3 ob_62.2) rfl rfl dX5_floods_57 (s5_hourBy h) (gV tbc kM_RX5_146_X5_hourBy kI_X5_hourBy kS_X5_hourBy kN_RX5 kC_X5_hourBy) rfl (by decide +kernel) ⟨Nat.le_of_ble_eq_true rfl, Nat.le_of_ble_eq_true rfl⟩ rfl rfl (Nat.le_of_ble_eq_true rfl) ⟨Nat.le_refl 0, Nat.le_refl 0⟩ (fun M h => ?_)
  refine a_iinc (L' := [(3, .int _), (2, .int _), (0, .ref _), (1, .int _)]) dX5_floods_60 3 rfl (show _ + Int32.ofInt (1 : Int) = _ + (1 : Int32) from rfl) (by decide) rfl ?_
  refine a_goto (tgt := 27) dX5_floods_63 (by decide) ?_
  refine a_sub [2, 3, 1, 0] rfl ?_
  exact hK27 _ _ _ _ h
set_option maxHeartbeats 4000000 in
set_option maxRecDepth 100000 in
theorem s5_floods_c66 {G : GG} {Q : Int32 → MM → Prop} : ∀ (x2 : Int32) (M : MM), D5_floods_c66 Q x2 M → A5_floods G Q 66 [(0, .ref (gA G 62)), (2, .int x2)] [] M := by
  intro x2 M h
  unfold D5_floods_c66 at h
  refine a_aload_n dX5_floods_66 0 rfl ?_
  refine a_callVv (n := 0) [] (C := RX5) (ci := 3) (qc := (RX5, TX5, 40)) (fsF := fl3 G _) ob_62.1 (fun _ => en3 ob_62.2) rfl rfl dX5_floods_67 (s5_again h) (gV tbc kM_RX5_215_X5_again kI_X5_again kS_X5_again kN_RX5 kC_X5_again) rfl (by decide +kernel) ⟨Nat.le_of_ble_eq_true rfl, Nat.le_of_ble_eq_true rfl⟩ rfl rfl (Nat.le_of_ble_eq_true rfl) ⟨Nat.le_refl 0, Nat.le_refl 0⟩ (fun M h => ?_)
  refine a_iload_n dX5_floods_70 1 rfl ?_
  exact a_iret dX5_floods_71 ⟨_, rfl, h⟩
set_option maxHeartbeats 4000000 in
set_option maxRecDepth 100000 in
theorem s5_floods_c27 {G : GG} {Q : Int32 → MM → Prop} : ∀ (n : Nat) (x1 : Int32) (x2 : Int32) (x3 : Int32) (M : MM), D5_floods_c27 Q n x1 x2 x3 M → A5_floods G Q 27 [(0, .ref (gA G 62)), (1, .int x1), (2, .int x2), (3, .int x3)] [] M := by
  intro n
  induction n with
  | zero => intro x1 x2 x3 M h; exact h.elim
  | succ n ih =>
    intro x1 x2 x3 M h
    unfold D5_floods_c27 at h
    refine a_iload_n dX5_floods_27 3 rfl ?_
    refine a_bipush (v := 60) dX5_floods_28 (by decide) ?_
    refine a_icmp_gt (tgt := 66) dX5_floods_30 (by decide) (fun c => ?_) (fun c => ?_)
    · have h := h.1 c
      refine a_sub [0, 2] rfl ?_
      exact s5_floods_c66 _ _ h
    · have h := h.2 c
      refine a_iload_n dX5_floods_33 2 rfl ?_
      refine a_if_ge (tgt := 66) dX5_floods_34 (by decide) (fun c => ?_) (fun c => ?_)
      · have h := h.1 c
        refine a_sub [0, 2] rfl ?_
        exact s5_floods_c66 _ _ h
      · have h := h.2 c
        refine a_aload_n dX5_floods_37 0 rfl ?_
        refine a_callVi (n := 0) [] (C := RX5) (ci := 3) (qc := (RX5, TX5, 40)) (fsF := fl3 G _) ob_62.1 (fun _ => en3 ob_62.2) rfl rfl dX5_floods_38 (s5_wetNow h) (gV tbc kM_RX5_257_X5_wetNow kI_X5_wetNow kS_X5_wetNow kN_RX5 kC_X5_wetNow) rfl (by decide +kernel) ⟨Nat.le_of_ble_eq_true rfl, Nat.le_of_ble_eq_true rfl⟩ rfl rfl (Nat.le_of_ble_eq_true rfl) ⟨Nat.le_refl 0, Nat.le_refl 0⟩ (fun r M h => ?_)
        refine a_iload_n dX5_floods_41 1 rfl ?_
        refine a_callSi (n := 2) [.int _, .int _] dX5_floods_42 (s5_hasBit h) (gS tbc kM_RX5_93_X5_hasBit kT_X5_hasBit kN_RX5 kC_X5_hasBit) rfl (by decide +kernel) ⟨Nat.le_of_ble_eq_true rfl, Nat.le_of_ble_eq_true rfl⟩ rfl rfl (Nat.le_of_ble_eq_true rfl) ⟨Nat.le_refl 0, Nat.le_refl 0⟩ (fun r M h => ?_)
        refine a_if_eq (tgt := 52) dX5_floods_45 (by decide) (fun c => ?_) (fun c => ?_)
        · have h := h.1 c
          refine a_bipush (v := -9) dX5_floods_52 (by decide) ?_
          refine a_sub [0, 1, 3] rfl ?_
          exact s5_floods_c54 ih _ _ _ _ h
        · have h := h.2 c
          refine a_iload_n dX5_floods_48 3 rfl ?_
          refine a_goto (tgt := 54) dX5_floods_49 (by decide) ?_
          refine a_sub [0, 1, 3] rfl ?_
          exact s5_floods_c54 ih _ _ _ _ h
set_option maxHeartbeats 4000000 in
set_option maxRecDepth 100000 in
theorem s5_floods {G : GG} {x1 : Int32} {M : MM} {Q : Int32 → MM → Prop} (h : D5_floods x1 M Q) : CM G yX5_floods (WY yX5_floods cX5_floods 4 (some .int)) 4 89 [.ref (gA G 62), .int x1] M (qI Q) := by
  refine CM.of (cc := cX5_floods) (nL := 4) (ret := (some .int)) (own := RX5) (by decide +kernel) rfl rfl (Nat.le_of_ble_eq_true rfl) ?_
  show A5_floods G Q 0 [(0, .ref (gA G 62)), (1, .int x1)] [] M
  unfold D5_floods at h
  refine a_aload_n dX5_floods_0 0 rfl ?_
  refine a_iconst (v := 0) dX5_floods_1 (by decide) ?_
  refine a_put3 dX5_floods_2 9 (by decide) (tbc _ kF_RX5_73) (fun w h => tbc _ (uW3 w h)) rfl rfl rfl rfl ob_62 fs3_9 ?_
  refine a_iload_n dX5_floods_5 1 rfl ?_
  refine a_callSi (n := 1) [.int _] dX5_floods_6 (s5_isCell h) (gS tbc kM_RX5_185_X5_isCell kT_X5_isCell kN_RX5 kC_X5_isCell) rfl (by decide +kernel) ⟨Nat.le_of_ble_eq_true rfl, Nat.le_of_ble_eq_true rfl⟩ rfl rfl (Nat.le_of_ble_eq_true rfl) ⟨Nat.le_refl 0, Nat.le_refl 0⟩ (fun r M h => ?_)
  refine a_if_ne (tgt := 18) dX5_floods_9 (by decide) (fun c => ?_) (fun c => ?_)
  · have h := h.1 c
    refine a_bipush (v := -9) dX5_floods_18 (by decide) ?_
    refine a_istore_n (i := 2) (L' := [(2, .int _), (0, .ref _), (1, .int _)]) dX5_floods_20 rfl (by decide) rfl ?_
    refine a_aload_n dX5_floods_21 1 rfl ?_
    refine a_callVv (n := 0) [] (C := RX5) (ci := 3) (qc := (RX5, TX5, 40)) (fsF := fl3 G _) ob_62.1 (fun _ => en3 ob_62.2) rfl rfl dX5_floods_22 (s5_think h) (gV tbc kM_RX5_209_X5_think kI_X5_think kS_X5_think kN_RX5 kC_X5_think) rfl (by decide +kernel) ⟨Nat.le_of_ble_eq_true rfl, Nat.le_of_ble_eq_true rfl⟩ rfl rfl (Nat.le_of_ble_eq_true rfl) ⟨Nat.le_refl 0, Nat.le_refl 0⟩ (fun M h => ?_)
    refine a_iconst (v := 0) dX5_floods_25 (by decide) ?_
    refine a_istore_n (i := 3) (L' := [(3, .int _), (2, .int _), (0, .ref _), (1, .int _)]) dX5_floods_26 rfl (by decide) rfl ?_
    refine a_sub [2, 3, 1, 0] rfl ?_
    exact s5_floods_c27 _ _ _ _ _ h
  · have h := h.2 c
    refine a_aload_n dX5_floods_12 0 rfl ?_
    refine a_iconst (v := -1) dX5_floods_13 (by decide) ?_
    refine a_callVi (n := 1) [.int _] (C := RX5) (ci := 3) (qc := (RX5, TX5, 40)) (fsF := fl3 G _) ob_62.1 (fun _ => en3 ob_62.2) rfl rfl dX5_floods_14 (s5_refuse h) (gV tbc kM_RX5_149_X5_refuse kI_X5_refuse kS_X5_refuse kN_RX5 kC_X5_refuse) rfl (by decide +kernel) ⟨Nat.le_of_ble_eq_true rfl, Nat.le_of_ble_eq_true rfl⟩ rfl rfl (Nat.le_of_ble_eq_true rfl) ⟨Nat.le_refl 0, Nat.le_refl 0⟩ (fun r M h => ?_)
    exact a_iret dX5_floods_17 ⟨_, rfl, h⟩

/-! X5_highestOne -/
theorem dX5_highestOne_0 : decode cX5_highestOne 0 = .ok (.bipush (-9), 2) := by decide +kernel
theorem dX5_highestOne_2 : decode cX5_highestOne 2 = .ok (.istore_n 1, 1) := by decide +kernel
theorem dX5_highestOne_3 : decode cX5_highestOne 3 = .ok (.iconst 0, 1) := by decide +kernel
theorem dX5_highestOne_4 : decode cX5_highestOne 4 = .ok (.istore_n 2, 1) := by decide +kernel
theorem dX5_highestOne_5 : decode cX5_highestOne 5 = .ok (.iload_n 2, 1) := by decide +kernel
theorem dX5_highestOne_6 : decode cX5_highestOne 6 = .ok (.aload_n 0, 1) := by decide +kernel
theorem dX5_highestOne_7 : decode cX5_highestOne 7 = .ok (.getfield 77, 3) := by decide +kernel
theorem dX5_highestOne_10 : decode cX5_highestOne 10 = .ok (.if_icmp .ge 47, 3) := by decide +kernel
theorem dX5_highestOne_13 : decode cX5_highestOne 13 = .ok (.aload_n 0, 1) := by decide +kernel
theorem dX5_highestOne_14 : decode cX5_highestOne 14 = .ok (.getfield 22, 3) := by decide +kernel
theorem dX5_highestOne_17 : decode cX5_highestOne 17 = .ok (.iload_n 2, 1) := by decide +kernel
theorem dX5_highestOne_18 : decode cX5_highestOne 18 = .ok (.iaload, 1) := by decide +kernel
theorem dX5_highestOne_19 : decode cX5_highestOne 19 = .ok (.ifCond .ne 30, 3) := by decide +kernel
theorem dX5_highestOne_22 : decode cX5_highestOne 22 = .ok (.iload_n 1, 1) := by decide +kernel
theorem dX5_highestOne_23 : decode cX5_highestOne 23 = .ok (.ifCond .lt 22, 3) := by decide +kernel
theorem dX5_highestOne_26 : decode cX5_highestOne 26 = .ok (.aload_n 0, 1) := by decide +kernel
theorem dX5_highestOne_27 : decode cX5_highestOne 27 = .ok (.getfield 16, 3) := by decide +kernel
theorem dX5_highestOne_30 : decode cX5_highestOne 30 = .ok (.iload_n 2, 1) := by decide +kernel
theorem dX5_highestOne_31 : decode cX5_highestOne 31 = .ok (.iaload, 1) := by decide +kernel
theorem dX5_highestOne_32 : decode cX5_highestOne 32 = .ok (.iconst 5, 1) := by decide +kernel
theorem dX5_highestOne_33 : decode cX5_highestOne 33 = .ok (.idiv, 1) := by decide +kernel
theorem dX5_highestOne_34 : decode cX5_highestOne 34 = .ok (.aload_n 0, 1) := by decide +kernel
theorem dX5_highestOne_35 : decode cX5_highestOne 35 = .ok (.getfield 16, 3) := by decide +kernel
theorem dX5_highestOne_38 : decode cX5_highestOne 38 = .ok (.iload_n 1, 1) := by decide +kernel
theorem dX5_highestOne_39 : decode cX5_highestOne 39 = .ok (.iaload, 1) := by decide +kernel
theorem dX5_highestOne_40 : decode cX5_highestOne 40 = .ok (.iconst 5, 1) := by decide +kernel
theorem dX5_highestOne_41 : decode cX5_highestOne 41 = .ok (.idiv, 1) := by decide +kernel
theorem dX5_highestOne_42 : decode cX5_highestOne 42 = .ok (.if_icmp .ge 7, 3) := by decide +kernel
theorem dX5_highestOne_45 : decode cX5_highestOne 45 = .ok (.iload_n 2, 1) := by decide +kernel
theorem dX5_highestOne_46 : decode cX5_highestOne 46 = .ok (.goto 4, 3) := by decide +kernel
theorem dX5_highestOne_49 : decode cX5_highestOne 49 = .ok (.iload_n 1, 1) := by decide +kernel
theorem dX5_highestOne_50 : decode cX5_highestOne 50 = .ok (.istore_n 1, 1) := by decide +kernel
theorem dX5_highestOne_51 : decode cX5_highestOne 51 = .ok (.iinc 2 1, 3) := by decide +kernel
theorem dX5_highestOne_54 : decode cX5_highestOne 54 = .ok (.goto (-49), 3) := by decide +kernel
theorem dX5_highestOne_57 : decode cX5_highestOne 57 = .ok (.iload_n 1, 1) := by decide +kernel
theorem dX5_highestOne_58 : decode cX5_highestOne 58 = .ok (.ireturn, 1) := by decide +kernel
abbrev A5_highestOne (G : GG) (Q : Int32 → MM → Prop) := AW G E0 (MZ G (qI Q)) (WY yX5_highestOne cX5_highestOne 3 (some .int)) RX5 cX5_highestOne 3 (some .int) ({ frames := 0, cells := 0, slots := 0, locals := 0 } : Room) 0 0
def D5_highestOne_c50 (K5 : Int32 → Int32 → MM → Prop) (Q : Int32 → MM → Prop) (x2 : Int32) (s0 : Int32) (M : MM) : Prop := (fun v1 : Int32 => K5 s0 v1 M) (x2 + (1 : Int32))
def D5_highestOne_c45 (K5 : Int32 → Int32 → MM → Prop) (Q : Int32 → MM → Prop) (x2 : Int32) (M : MM) : Prop := D5_highestOne_c50 K5 Q x2 x2 M
def D5_highestOne_c49 (K5 : Int32 → Int32 → MM → Prop) (Q : Int32 → MM → Prop) (x1 : Int32) (x2 : Int32) (M : MM) : Prop := D5_highestOne_c50 K5 Q x2 x1 M
def D5_highestOne_c5 (Q : Int32 → MM → Prop) : Nat → Int32 → Int32 → MM → Prop
  | 0, _, _, _ => False
  | n + 1, x1, x2, M => (((M 62 0) ≤ x2 → Q x1 M) ∧ (¬ (M 62 0) ≤ x2 → ib 67 x2 ∧ (((M 67 (ix x2)) ≠ 0 → D5_highestOne_c49 (D5_highestOne_c5 Q n) Q x1 x2 M) ∧ ((M 67 (ix x2)) = 0 → ((x1 < 0 → D5_highestOne_c45 (D5_highestOne_c5 Q n) Q x2 M) ∧ (¬ x1 < 0 → ib 65 x2 ∧ ib 65 x1 ∧ ((((M 65 (ix x1)) / (5 : Int32)) ≤ ((M 65 (ix x2)) / (5 : Int32)) → D5_highestOne_c49 (D5_highestOne_c5 Q n) Q x1 x2 M) ∧ (¬ ((M 65 (ix x1)) / (5 : Int32)) ≤ ((M 65 (ix x2)) / (5 : Int32)) → D5_highestOne_c45 (D5_highestOne_c5 Q n) Q x2 M))))))))
def D5_highestOne (M : MM) (Q : Int32 → MM → Prop) : Prop := D5_highestOne_c5 Q FU (-9 : Int32) (0 : Int32) M
set_option maxHeartbeats 4000000 in
set_option maxRecDepth 100000 in
theorem s5_highestOne_c50 {G : GG} {K5 : Int32 → Int32 → MM → Prop} {Q : Int32 → MM → Prop} (hK5 : ∀ (x1 : Int32) (x2 : Int32) (M : MM), K5 x1 x2 M → A5_highestOne G Q 5 [(0, .ref (gA G 62)), (1, .int x1), (2, .int x2)] [] M) : ∀ (x2 : Int32) (s0 : Int32) (M : MM), D5_highestOne_c50 K5 Q x2 s0 M → A5_highestOne G Q 50 [(0, .ref (gA G 62)), (2, .int x2)] [.int s0] M := by
  intro x2 s0 M h
  unfold D5_highestOne_c50 at h
  refine a_istore_n (i := 1) (L' := [(1, .int _), (0, .ref _), (2, .int _)]) dX5_highestOne_50 rfl (by decide) rfl ?_
  refine a_iinc (L' := [(2, .int _), (1, .int _), (0, .ref _)]) dX5_highestOne_51 2 rfl (show _ + Int32.ofInt (1 : Int) = _ + (1 : Int32) from rfl) (by decide) rfl ?_
  refine a_goto (tgt := 5) dX5_highestOne_54 (by decide) ?_
  refine a_sub [2, 1, 0] rfl ?_
  exact hK5 _ _ _ h
set_option maxHeartbeats 4000000 in
set_option maxRecDepth 100000 in
theorem s5_highestOne_c45 {G : GG} {K5 : Int32 → Int32 → MM → Prop} {Q : Int32 → MM → Prop} (hK5 : ∀ (x1 : Int32) (x2 : Int32) (M : MM), K5 x1 x2 M → A5_highestOne G Q 5 [(0, .ref (gA G 62)), (1, .int x1), (2, .int x2)] [] M) : ∀ (x2 : Int32) (M : MM), D5_highestOne_c45 K5 Q x2 M → A5_highestOne G Q 45 [(0, .ref (gA G 62)), (2, .int x2)] [] M := by
  intro x2 M h
  unfold D5_highestOne_c45 at h
  refine a_iload_n dX5_highestOne_45 1 rfl ?_
  refine a_goto (tgt := 50) dX5_highestOne_46 (by decide) ?_
  refine a_sub [0, 1] rfl ?_
  exact s5_highestOne_c50 hK5 _ _ _ h
set_option maxHeartbeats 4000000 in
set_option maxRecDepth 100000 in
theorem s5_highestOne_c49 {G : GG} {K5 : Int32 → Int32 → MM → Prop} {Q : Int32 → MM → Prop} (hK5 : ∀ (x1 : Int32) (x2 : Int32) (M : MM), K5 x1 x2 M → A5_highestOne G Q 5 [(0, .ref (gA G 62)), (1, .int x1), (2, .int x2)] [] M) : ∀ (x1 : Int32) (x2 : Int32) (M : MM), D5_highestOne_c49 K5 Q x1 x2 M → A5_highestOne G Q 49 [(0, .ref (gA G 62)), (1, .int x1), (2, .int x2)] [] M := by
  intro x1 x2 M h
  unfold D5_highestOne_c49 at h
  refine a_iload_n dX5_highestOne_49 1 rfl ?_
  refine a_sub [0, 2] rfl ?_
  exact s5_highestOne_c50 hK5 _ _ _ h
set_option maxHeartbeats 4000000 in
set_option maxRecDepth 100000 in
theorem s5_highestOne_c5 {G : GG} {Q : Int32 → MM → Prop} : ∀ (n : Nat) (x1 : Int32) (x2 : Int32) (M : MM), D5_highestOne_c5 Q n x1 x2 M → A5_highestOne G Q 5 [(0, .ref (gA G 62)), (1, .int x1), (2, .int x2)] [] M := by
  intro n
  induction n with
  | zero => intro x1 x2 M h; exact h.elim
  | succ n ih =>
    intro x1 x2 M h
    unfold D5_highestOne_c5 at h
    refine a_iload_n dX5_highestOne_5 2 rfl ?_
    refine a_aload_n dX5_highestOne_6 0 rfl ?_
    refine a_get3 dX5_highestOne_7 0 (by decide) (tbc _ kF_RX5_77) (fun w h => tbc _ (uW3 w h)) rfl ob_62 rfl ?_
    refine a_icmp_ge (tgt := 57) dX5_highestOne_10 (by decide) (fun c => ?_) (fun c => ?_)
    · have h := h.1 c
      refine a_iload_n dX5_highestOne_57 1 rfl ?_
      exact a_iret dX5_highestOne_58 ⟨_, rfl, h⟩
    · have h := h.2 c
      refine a_aload_n dX5_highestOne_13 0 rfl ?_
      refine a_get3 dX5_highestOne_14 5 (by decide) (tbc _ kF_RX5_22) (fun w h => tbc _ (uW3 w h)) rfl ob_62 rfl ?_
      refine a_iload_n dX5_highestOne_17 2 rfl ?_
      refine a_iald dX5_highestOne_18 h.1 ?_
      have h := h.2
      refine a_if_ne (tgt := 49) dX5_highestOne_19 (by decide) (fun c => ?_) (fun c => ?_)
      · have h := h.1 c
        refine a_sub [0, 1, 2] rfl ?_
        exact s5_highestOne_c49 ih _ _ _ h
      · have h := h.2 c
        refine a_iload_n dX5_highestOne_22 1 rfl ?_
        refine a_if_lt (tgt := 45) dX5_highestOne_23 (by decide) (fun c => ?_) (fun c => ?_)
        · have h := h.1 c
          refine a_sub [0, 2] rfl ?_
          exact s5_highestOne_c45 ih _ _ h
        · have h := h.2 c
          refine a_aload_n dX5_highestOne_26 0 rfl ?_
          refine a_get3 dX5_highestOne_27 3 (by decide) (tbc _ kF_RX5_16) (fun w h => tbc _ (uW3 w h)) rfl ob_62 rfl ?_
          refine a_iload_n dX5_highestOne_30 2 rfl ?_
          refine a_iald dX5_highestOne_31 h.1 ?_
          have h := h.2
          refine a_iconst (v := 5) dX5_highestOne_32 (by decide) ?_
          refine a_idiv dX5_highestOne_33 (by decide) ?_
          refine a_aload_n dX5_highestOne_34 0 rfl ?_
          refine a_get3 dX5_highestOne_35 3 (by decide) (tbc _ kF_RX5_16) (fun w h => tbc _ (uW3 w h)) rfl ob_62 rfl ?_
          refine a_iload_n dX5_highestOne_38 1 rfl ?_
          refine a_iald dX5_highestOne_39 h.1 ?_
          have h := h.2
          refine a_iconst (v := 5) dX5_highestOne_40 (by decide) ?_
          refine a_idiv dX5_highestOne_41 (by decide) ?_
          refine a_icmp_ge (tgt := 49) dX5_highestOne_42 (by decide) (fun c => ?_) (fun c => ?_)
          · have h := h.1 c
            refine a_sub [0, 1, 2] rfl ?_
            exact s5_highestOne_c49 ih _ _ _ h
          · have h := h.2 c
            refine a_sub [0, 2] rfl ?_
            exact s5_highestOne_c45 ih _ _ h
set_option maxHeartbeats 4000000 in
set_option maxRecDepth 100000 in
theorem s5_highestOne {G : GG} {M : MM} {Q : Int32 → MM → Prop} (h : D5_highestOne M Q) : CM G yX5_highestOne (WY yX5_highestOne cX5_highestOne 3 (some .int)) 0 0 [.ref (gA G 62)] M (qI Q) := by
  refine CM.of (cc := cX5_highestOne) (nL := 3) (ret := (some .int)) (own := RX5) (by decide +kernel) rfl rfl (Nat.le_of_ble_eq_true rfl) ?_
  show A5_highestOne G Q 0 [(0, .ref (gA G 62))] [] M
  unfold D5_highestOne at h
  refine a_bipush (v := -9) dX5_highestOne_0 (by decide) ?_
  refine a_istore_n (i := 1) (L' := [(1, .int _), (0, .ref _)]) dX5_highestOne_2 rfl (by decide) rfl ?_
  refine a_iconst (v := 0) dX5_highestOne_3 (by decide) ?_
  refine a_istore_n (i := 2) (L' := [(2, .int _), (1, .int _), (0, .ref _)]) dX5_highestOne_4 rfl (by decide) rfl ?_
  refine a_sub [2, 1, 0] rfl ?_
  exact s5_highestOne_c5 _ _ _ _ h

/-! X5_hours -/
theorem dX5_hours_0 : decode cX5_hours 0 = .ok (.aload_n 0, 1) := by decide +kernel
theorem dX5_hours_1 : decode cX5_hours 1 = .ok (.iconst 0, 1) := by decide +kernel
theorem dX5_hours_2 : decode cX5_hours 2 = .ok (.putfield 73, 3) := by decide +kernel
theorem dX5_hours_5 : decode cX5_hours 5 = .ok (.iload_n 1, 1) := by decide +kernel
theorem dX5_hours_6 : decode cX5_hours 6 = .ok (.iconst 1, 1) := by decide +kernel
theorem dX5_hours_7 : decode cX5_hours 7 = .ok (.bipush 60, 2) := by decide +kernel
theorem dX5_hours_9 : decode cX5_hours 9 = .ok (.invokestatic 244, 3) := by decide +kernel
theorem dX5_hours_12 : decode cX5_hours 12 = .ok (.istore_n 2, 1) := by decide +kernel
theorem dX5_hours_13 : decode cX5_hours 13 = .ok (.iload_n 2, 1) := by decide +kernel
theorem dX5_hours_14 : decode cX5_hours 14 = .ok (.ifCond .ne 20, 3) := by decide +kernel
theorem dX5_hours_17 : decode cX5_hours 17 = .ok (.aload_n 0, 1) := by decide +kernel
theorem dX5_hours_18 : decode cX5_hours 18 = .ok (.getfield 114, 3) := by decide +kernel
theorem dX5_hours_21 : decode cX5_hours 21 = .ok (.iload_n 1, 1) := by decide +kernel
theorem dX5_hours_22 : decode cX5_hours 22 = .ok (.iadd, 1) := by decide +kernel
theorem dX5_hours_23 : decode cX5_hours 23 = .ok (.sipush 999, 3) := by decide +kernel
theorem dX5_hours_26 : decode cX5_hours 26 = .ok (.if_icmp .le 8, 3) := by decide +kernel
theorem dX5_hours_29 : decode cX5_hours 29 = .ok (.bipush (-6), 2) := by decide +kernel
theorem dX5_hours_31 : decode cX5_hours 31 = .ok (.goto 4, 3) := by decide +kernel
theorem dX5_hours_34 : decode cX5_hours 34 = .ok (.iload_n 2, 1) := by decide +kernel
theorem dX5_hours_35 : decode cX5_hours 35 = .ok (.istore_n 2, 1) := by decide +kernel
theorem dX5_hours_36 : decode cX5_hours 36 = .ok (.iload_n 2, 1) := by decide +kernel
theorem dX5_hours_37 : decode cX5_hours 37 = .ok (.ifCond .ge 9, 3) := by decide +kernel
theorem dX5_hours_40 : decode cX5_hours 40 = .ok (.aload_n 0, 1) := by decide +kernel
theorem dX5_hours_41 : decode cX5_hours 41 = .ok (.iload_n 2, 1) := by decide +kernel
theorem dX5_hours_42 : decode cX5_hours 42 = .ok (.invokevirtual 149, 3) := by decide +kernel
theorem dX5_hours_45 : decode cX5_hours 45 = .ok (.ireturn, 1) := by decide +kernel
theorem dX5_hours_46 : decode cX5_hours 46 = .ok (.aload_n 0, 1) := by decide +kernel
theorem dX5_hours_47 : decode cX5_hours 47 = .ok (.invokevirtual 248, 3) := by decide +kernel
theorem dX5_hours_50 : decode cX5_hours 50 = .ok (.aload_n 0, 1) := by decide +kernel
theorem dX5_hours_51 : decode cX5_hours 51 = .ok (.iload_n 1, 1) := by decide +kernel
theorem dX5_hours_52 : decode cX5_hours 52 = .ok (.invokevirtual 200, 3) := by decide +kernel
theorem dX5_hours_55 : decode cX5_hours 55 = .ok (.aload_n 0, 1) := by decide +kernel
theorem dX5_hours_56 : decode cX5_hours 56 = .ok (.getfield 131, 3) := by decide +kernel
theorem dX5_hours_59 : decode cX5_hours 59 = .ok (.ireturn, 1) := by decide +kernel
abbrev A5_hours (G : GG) (Q : Int32 → MM → Prop) := AW G E0 (MZ G (qI Q)) (WY yX5_hours cX5_hours 3 (some .int)) RX5 cX5_hours 3 (some .int) ({ frames := 5, cells := 0, slots := 0, locals := 111 } : Room) 0 0
def D5_hours_c35 (Q : Int32 → MM → Prop) (x1 : Int32) (s0 : Int32) (M : MM) : Prop := ((0 ≤ s0 → D5_keepTurn M (fun (M5 : MM) => D5_goHours x1 M5 (fun (M7 : MM) => Q (M7 62 6) M7))) ∧ (¬ 0 ≤ s0 → D5_refuse s0 M (fun (r8 : Int32) (M9 : MM) => Q r8 M9)))
def D5_hours_c34 (Q : Int32 → MM → Prop) (x1 : Int32) (x2 : Int32) (M : MM) : Prop := D5_hours_c35 Q x1 x2 M
def D5_hours (x1 : Int32) (M : MM) (Q : Int32 → MM → Prop) : Prop := (fun M1 : MM => D5_wrongNumber x1 (1 : Int32) (60 : Int32) M1 (fun (r2 : Int32) (M3 : MM) => ((r2 ≠ 0 → D5_hours_c34 Q x1 r2 M3) ∧ (r2 = 0 → ((((M3 62 8) + x1) ≤ (999 : Int32) → D5_hours_c34 Q x1 r2 M3) ∧ (¬ ((M3 62 8) + x1) ≤ (999 : Int32) → D5_hours_c35 Q x1 (-6 : Int32) M3)))))) (up M 62 9 (0 : Int32))
set_option maxHeartbeats 4000000 in
set_option maxRecDepth 100000 in
theorem s5_hours_c35 {G : GG} {Q : Int32 → MM → Prop} : ∀ (x1 : Int32) (s0 : Int32) (M : MM), D5_hours_c35 Q x1 s0 M → A5_hours G Q 35 [(0, .ref (gA G 62)), (1, .int x1)] [.int s0] M := by
  intro x1 s0 M h
  unfold D5_hours_c35 at h
  refine a_istore_n (i := 2) (L' := [(2, .int _), (0, .ref _), (1, .int _)]) dX5_hours_35 rfl (by decide) rfl ?_
  refine a_iload_n dX5_hours_36 0 rfl ?_
  refine a_if_ge (tgt := 46) dX5_hours_37 (by decide) (fun c => ?_) (fun c => ?_)
  · have h := h.1 c
    refine a_aload_n dX5_hours_46 1 rfl ?_
    refine a_callVv (n := 0) [] (C := RX5) (ci := 3) (qc := (RX5, TX5, 40)) (fsF := fl3 G _) ob_62.1 (fun _ => en3 ob_62.2) rfl rfl dX5_hours_47 (s5_keepTurn h) (gV tbc kM_RX5_248_X5_keepTurn kI_X5_keepTurn kS_X5_keepTurn kN_RX5 kC_X5_keepTurn) rfl (by decide +kernel) ⟨Nat.le_of_ble_eq_true rfl, Nat.le_of_ble_eq_true rfl⟩ rfl rfl (Nat.le_of_ble_eq_true rfl) ⟨Nat.le_refl 0, Nat.le_refl 0⟩ (fun M h => ?_)
    refine a_aload_n dX5_hours_50 1 rfl ?_
    refine a_iload_n dX5_hours_51 2 rfl ?_
    refine a_callVv (n := 1) [.int _] (C := RX5) (ci := 3) (qc := (RX5, TX5, 40)) (fsF := fl3 G _) ob_62.1 (fun _ => en3 ob_62.2) rfl rfl dX5_hours_52 (s5_goHours h) (gV tbc kM_RX5_200_X5_goHours kI_X5_goHours kS_X5_goHours kN_RX5 kC_X5_goHours) rfl (by decide +kernel) ⟨Nat.le_of_ble_eq_true rfl, Nat.le_of_ble_eq_true rfl⟩ rfl rfl (Nat.le_of_ble_eq_true rfl) ⟨Nat.le_refl 0, Nat.le_refl 0⟩ (fun M h => ?_)
    refine a_aload_n dX5_hours_55 1 rfl ?_
    refine a_get3 dX5_hours_56 6 (by decide) (tbc _ kF_RX5_131) (fun w h => tbc _ (uW3 w h)) rfl ob_62 rfl ?_
    exact a_iret dX5_hours_59 ⟨_, rfl, h⟩
  · have h := h.2 c
    refine a_aload_n dX5_hours_40 1 rfl ?_
    refine a_iload_n dX5_hours_41 0 rfl ?_
    refine a_callVi (n := 1) [.int _] (C := RX5) (ci := 3) (qc := (RX5, TX5, 40)) (fsF := fl3 G _) ob_62.1 (fun _ => en3 ob_62.2) rfl rfl dX5_hours_42 (s5_refuse h) (gV tbc kM_RX5_149_X5_refuse kI_X5_refuse kS_X5_refuse kN_RX5 kC_X5_refuse) rfl (by decide +kernel) ⟨Nat.le_of_ble_eq_true rfl, Nat.le_of_ble_eq_true rfl⟩ rfl rfl (Nat.le_of_ble_eq_true rfl) ⟨Nat.le_refl 0, Nat.le_refl 0⟩ (fun r M h => ?_)
    exact a_iret dX5_hours_45 ⟨_, rfl, h⟩
set_option maxHeartbeats 4000000 in
set_option maxRecDepth 100000 in
theorem s5_hours_c34 {G : GG} {Q : Int32 → MM → Prop} : ∀ (x1 : Int32) (x2 : Int32) (M : MM), D5_hours_c34 Q x1 x2 M → A5_hours G Q 34 [(0, .ref (gA G 62)), (1, .int x1), (2, .int x2)] [] M := by
  intro x1 x2 M h
  unfold D5_hours_c34 at h
  refine a_iload_n dX5_hours_34 2 rfl ?_
  refine a_sub [0, 1] rfl ?_
  exact s5_hours_c35 _ _ _ h
set_option maxHeartbeats 4000000 in
set_option maxRecDepth 100000 in
theorem s5_hours {G : GG} {x1 : Int32} {M : MM} {Q : Int32 → MM → Prop} (h : D5_hours x1 M Q) : CM G yX5_hours (WY yX5_hours cX5_hours 3 (some .int)) 5 111 [.ref (gA G 62), .int x1] M (qI Q) := by
  refine CM.of (cc := cX5_hours) (nL := 3) (ret := (some .int)) (own := RX5) (by decide +kernel) rfl rfl (Nat.le_of_ble_eq_true rfl) ?_
  show A5_hours G Q 0 [(0, .ref (gA G 62)), (1, .int x1)] [] M
  unfold D5_hours at h
  refine a_aload_n dX5_hours_0 0 rfl ?_
  refine a_iconst (v := 0) dX5_hours_1 (by decide) ?_
  refine a_put3 dX5_hours_2 9 (by decide) (tbc _ kF_RX5_73) (fun w h => tbc _ (uW3 w h)) rfl rfl rfl rfl ob_62 fs3_9 ?_
  refine a_iload_n dX5_hours_5 1 rfl ?_
  refine a_iconst (v := 1) dX5_hours_6 (by decide) ?_
  refine a_bipush (v := 60) dX5_hours_7 (by decide) ?_
  refine a_callSi (n := 3) [.int _, .int _, .int _] dX5_hours_9 (s5_wrongNumber h) (gS tbc kM_RX5_244_X5_wrongNumber kT_X5_wrongNumber kN_RX5 kC_X5_wrongNumber) rfl (by decide +kernel) ⟨Nat.le_of_ble_eq_true rfl, Nat.le_of_ble_eq_true rfl⟩ rfl rfl (Nat.le_of_ble_eq_true rfl) ⟨Nat.le_refl 0, Nat.le_refl 0⟩ (fun r M h => ?_)
  refine a_istore_n (i := 2) (L' := [(2, .int _), (0, .ref _), (1, .int _)]) dX5_hours_12 rfl (by decide) rfl ?_
  refine a_iload_n dX5_hours_13 0 rfl ?_
  refine a_if_ne (tgt := 34) dX5_hours_14 (by decide) (fun c => ?_) (fun c => ?_)
  · have h := h.1 c
    refine a_sub [1, 2, 0] rfl ?_
    exact s5_hours_c34 _ _ _ h
  · have h := h.2 c
    refine a_aload_n dX5_hours_17 1 rfl ?_
    refine a_get3 dX5_hours_18 8 (by decide) (tbc _ kF_RX5_114) (fun w h => tbc _ (uW3 w h)) rfl ob_62 rfl ?_
    refine a_iload_n dX5_hours_21 2 rfl ?_
    refine a_iadd dX5_hours_22 ?_
    refine a_sipush (v := 999) dX5_hours_23 (by decide) ?_
    refine a_icmp_le (tgt := 34) dX5_hours_26 (by decide) (fun c => ?_) (fun c => ?_)
    · have h := h.1 c
      refine a_sub [1, 2, 0] rfl ?_
      exact s5_hours_c34 _ _ _ h
    · have h := h.2 c
      refine a_bipush (v := -6) dX5_hours_29 (by decide) ?_
      refine a_goto (tgt := 35) dX5_hours_31 (by decide) ?_
      refine a_sub [1, 2] rfl ?_
      exact s5_hours_c35 _ _ _ h

/-! X5_onesOf -/
theorem dX5_onesOf_0 : decode cX5_onesOf 0 = .ok (.iconst 0, 1) := by decide +kernel
theorem dX5_onesOf_1 : decode cX5_onesOf 1 = .ok (.istore_n 1, 1) := by decide +kernel
theorem dX5_onesOf_2 : decode cX5_onesOf 2 = .ok (.iload_n 0, 1) := by decide +kernel
theorem dX5_onesOf_3 : decode cX5_onesOf 3 = .ok (.istore_n 2, 1) := by decide +kernel
theorem dX5_onesOf_4 : decode cX5_onesOf 4 = .ok (.iload_n 2, 1) := by decide +kernel
theorem dX5_onesOf_5 : decode cX5_onesOf 5 = .ok (.ifCond .eq 15, 3) := by decide +kernel
theorem dX5_onesOf_8 : decode cX5_onesOf 8 = .ok (.iinc 1 1, 3) := by decide +kernel
theorem dX5_onesOf_11 : decode cX5_onesOf 11 = .ok (.iload_n 2, 1) := by decide +kernel
theorem dX5_onesOf_12 : decode cX5_onesOf 12 = .ok (.iload_n 2, 1) := by decide +kernel
theorem dX5_onesOf_13 : decode cX5_onesOf 13 = .ok (.iconst 1, 1) := by decide +kernel
theorem dX5_onesOf_14 : decode cX5_onesOf 14 = .ok (.isub, 1) := by decide +kernel
theorem dX5_onesOf_15 : decode cX5_onesOf 15 = .ok (.iand, 1) := by decide +kernel
theorem dX5_onesOf_16 : decode cX5_onesOf 16 = .ok (.istore_n 2, 1) := by decide +kernel
theorem dX5_onesOf_17 : decode cX5_onesOf 17 = .ok (.goto (-13), 3) := by decide +kernel
theorem dX5_onesOf_20 : decode cX5_onesOf 20 = .ok (.iload_n 1, 1) := by decide +kernel
theorem dX5_onesOf_21 : decode cX5_onesOf 21 = .ok (.ireturn, 1) := by decide +kernel
abbrev A5_onesOf (G : GG) (Q : Int32 → MM → Prop) := AW G E0 (MZ G (qI Q)) (WY yX5_onesOf cX5_onesOf 3 (some .int)) RX5 cX5_onesOf 3 (some .int) ({ frames := 0, cells := 0, slots := 0, locals := 0 } : Room) 0 0
def D5_onesOf_c4 (Q : Int32 → MM → Prop) : Nat → Int32 → Int32 → MM → Prop
  | 0, _, _, _ => False
  | n + 1, x1, x2, M => ((x2 = 0 → Q x1 M) ∧ (¬ x2 = 0 → (fun v1 : Int32 => (fun v2 : Int32 => D5_onesOf_c4 Q n v1 v2 M) (x2 &&& (x2 - (1 : Int32)))) (x1 + (1 : Int32))))
def D5_onesOf (x0 : Int32) (M : MM) (Q : Int32 → MM → Prop) : Prop := D5_onesOf_c4 Q FU (0 : Int32) x0 M
set_option maxHeartbeats 4000000 in
set_option maxRecDepth 100000 in
theorem s5_onesOf_c4 {G : GG} {Q : Int32 → MM → Prop} : ∀ (n : Nat) (x1 : Int32) (x2 : Int32) (M : MM), D5_onesOf_c4 Q n x1 x2 M → A5_onesOf G Q 4 [(1, .int x1), (2, .int x2)] [] M := by
  intro n
  induction n with
  | zero => intro x1 x2 M h; exact h.elim
  | succ n ih =>
    intro x1 x2 M h
    unfold D5_onesOf_c4 at h
    refine a_iload_n dX5_onesOf_4 1 rfl ?_
    refine a_if_eq (tgt := 20) dX5_onesOf_5 (by decide) (fun c => ?_) (fun c => ?_)
    · have h := h.1 c
      refine a_iload_n dX5_onesOf_20 0 rfl ?_
      exact a_iret dX5_onesOf_21 ⟨_, rfl, h⟩
    · have h := h.2 c
      refine a_iinc (L' := [(1, .int _), (2, .int _)]) dX5_onesOf_8 0 rfl (show _ + Int32.ofInt (1 : Int) = _ + (1 : Int32) from rfl) (by decide) rfl ?_
      refine a_iload_n dX5_onesOf_11 1 rfl ?_
      refine a_iload_n dX5_onesOf_12 1 rfl ?_
      refine a_iconst (v := 1) dX5_onesOf_13 (by decide) ?_
      refine a_isub dX5_onesOf_14 ?_
      refine a_iand dX5_onesOf_15 ?_
      refine a_istore_n (i := 2) (L' := [(2, .int _), (1, .int _)]) dX5_onesOf_16 rfl (by decide) rfl ?_
      refine a_goto (tgt := 4) dX5_onesOf_17 (by decide) ?_
      refine a_sub [1, 0] rfl ?_
      exact ih _ _ _ h
set_option maxHeartbeats 4000000 in
set_option maxRecDepth 100000 in
theorem s5_onesOf {G : GG} {x0 : Int32} {M : MM} {Q : Int32 → MM → Prop} (h : D5_onesOf x0 M Q) : CM G yX5_onesOf (WY yX5_onesOf cX5_onesOf 3 (some .int)) 0 0 [.int x0] M (qI Q) := by
  refine CM.of (cc := cX5_onesOf) (nL := 3) (ret := (some .int)) (own := RX5) (by decide +kernel) rfl rfl (Nat.le_of_ble_eq_true rfl) ?_
  show A5_onesOf G Q 0 [(0, .int x0)] [] M
  unfold D5_onesOf at h
  refine a_iconst (v := 0) dX5_onesOf_0 (by decide) ?_
  refine a_istore_n (i := 1) (L' := [(1, .int _), (0, .int _)]) dX5_onesOf_1 rfl (by decide) rfl ?_
  refine a_iload_n dX5_onesOf_2 1 rfl ?_
  refine a_istore_n (i := 2) (L' := [(2, .int _), (1, .int _), (0, .int _)]) dX5_onesOf_3 rfl (by decide) rfl ?_
  refine a_sub [1, 0] rfl ?_
  exact s5_onesOf_c4 _ _ _ _ h

/-! X5_howHigh -/
theorem dX5_howHigh_0 : decode cX5_howHigh 0 = .ok (.aload_n 0, 1) := by decide +kernel
theorem dX5_howHigh_1 : decode cX5_howHigh 1 = .ok (.iconst 0, 1) := by decide +kernel
theorem dX5_howHigh_2 : decode cX5_howHigh 2 = .ok (.putfield 73, 3) := by decide +kernel
theorem dX5_howHigh_5 : decode cX5_howHigh 5 = .ok (.iconst 0, 1) := by decide +kernel
theorem dX5_howHigh_6 : decode cX5_howHigh 6 = .ok (.istore_n 1, 1) := by decide +kernel
theorem dX5_howHigh_7 : decode cX5_howHigh 7 = .ok (.aload_n 0, 1) := by decide +kernel
theorem dX5_howHigh_8 : decode cX5_howHigh 8 = .ok (.invokevirtual 209, 3) := by decide +kernel
theorem dX5_howHigh_11 : decode cX5_howHigh 11 = .ok (.iconst 0, 1) := by decide +kernel
theorem dX5_howHigh_12 : decode cX5_howHigh 12 = .ok (.istore_n 2, 1) := by decide +kernel
theorem dX5_howHigh_13 : decode cX5_howHigh 13 = .ok (.iload_n 2, 1) := by decide +kernel
theorem dX5_howHigh_14 : decode cX5_howHigh 14 = .ok (.bipush 12, 2) := by decide +kernel
theorem dX5_howHigh_16 : decode cX5_howHigh 16 = .ok (.if_icmp .ge 84, 3) := by decide +kernel
theorem dX5_howHigh_19 : decode cX5_howHigh 19 = .ok (.aload_n 0, 1) := by decide +kernel
theorem dX5_howHigh_20 : decode cX5_howHigh 20 = .ok (.iload_n 2, 1) := by decide +kernel
theorem dX5_howHigh_21 : decode cX5_howHigh 21 = .ok (.putfield 114, 3) := by decide +kernel
theorem dX5_howHigh_24 : decode cX5_howHigh 24 = .ok (.iconst 1, 1) := by decide +kernel
theorem dX5_howHigh_25 : decode cX5_howHigh 25 = .ok (.istore_n 3, 1) := by decide +kernel
theorem dX5_howHigh_26 : decode cX5_howHigh 26 = .ok (.iconst 0, 1) := by decide +kernel
theorem dX5_howHigh_27 : decode cX5_howHigh 27 = .ok (.istore 4, 2) := by decide +kernel
theorem dX5_howHigh_29 : decode cX5_howHigh 29 = .ok (.iload 4, 2) := by decide +kernel
theorem dX5_howHigh_31 : decode cX5_howHigh 31 = .ok (.aload_n 0, 1) := by decide +kernel
theorem dX5_howHigh_32 : decode cX5_howHigh 32 = .ok (.getfield 301, 3) := by decide +kernel
theorem dX5_howHigh_35 : decode cX5_howHigh 35 = .ok (.if_icmp .ge 41, 3) := by decide +kernel
theorem dX5_howHigh_38 : decode cX5_howHigh 38 = .ok (.iload_n 3, 1) := by decide +kernel
theorem dX5_howHigh_39 : decode cX5_howHigh 39 = .ok (.ifCond .eq 37, 3) := by decide +kernel
theorem dX5_howHigh_42 : decode cX5_howHigh 42 = .ok (.aload_n 0, 1) := by decide +kernel
theorem dX5_howHigh_43 : decode cX5_howHigh 43 = .ok (.getfield 64, 3) := by decide +kernel
theorem dX5_howHigh_46 : decode cX5_howHigh 46 = .ok (.iload 4, 2) := by decide +kernel
theorem dX5_howHigh_48 : decode cX5_howHigh 48 = .ok (.iaload, 1) := by decide +kernel
theorem dX5_howHigh_49 : decode cX5_howHigh 49 = .ok (.aload_n 0, 1) := by decide +kernel
theorem dX5_howHigh_50 : decode cX5_howHigh 50 = .ok (.invokevirtual 257, 3) := by decide +kernel
theorem dX5_howHigh_53 : decode cX5_howHigh 53 = .ok (.invokestatic 254, 3) := by decide +kernel
theorem dX5_howHigh_56 : decode cX5_howHigh 56 = .ok (.if_icmp .ne 7, 3) := by decide +kernel
theorem dX5_howHigh_59 : decode cX5_howHigh 59 = .ok (.iconst 1, 1) := by decide +kernel
theorem dX5_howHigh_60 : decode cX5_howHigh 60 = .ok (.goto 4, 3) := by decide +kernel
theorem dX5_howHigh_63 : decode cX5_howHigh 63 = .ok (.iconst 0, 1) := by decide +kernel
theorem dX5_howHigh_64 : decode cX5_howHigh 64 = .ok (.istore_n 3, 1) := by decide +kernel
theorem dX5_howHigh_65 : decode cX5_howHigh 65 = .ok (.aload_n 0, 1) := by decide +kernel
theorem dX5_howHigh_66 : decode cX5_howHigh 66 = .ok (.iconst 0, 1) := by decide +kernel
theorem dX5_howHigh_67 : decode cX5_howHigh 67 = .ok (.invokevirtual 146, 3) := by decide +kernel
theorem dX5_howHigh_70 : decode cX5_howHigh 70 = .ok (.iinc 4 1, 3) := by decide +kernel
theorem dX5_howHigh_73 : decode cX5_howHigh 73 = .ok (.goto (-44), 3) := by decide +kernel
theorem dX5_howHigh_76 : decode cX5_howHigh 76 = .ok (.iload_n 1, 1) := by decide +kernel
theorem dX5_howHigh_77 : decode cX5_howHigh 77 = .ok (.iload_n 3, 1) := by decide +kernel
theorem dX5_howHigh_78 : decode cX5_howHigh 78 = .ok (.ifCond .eq 9, 3) := by decide +kernel
theorem dX5_howHigh_81 : decode cX5_howHigh 81 = .ok (.iconst 1, 1) := by decide +kernel
theorem dX5_howHigh_82 : decode cX5_howHigh 82 = .ok (.iload_n 2, 1) := by decide +kernel
theorem dX5_howHigh_83 : decode cX5_howHigh 83 = .ok (.ishl, 1) := by decide +kernel
theorem dX5_howHigh_84 : decode cX5_howHigh 84 = .ok (.goto 4, 3) := by decide +kernel
theorem dX5_howHigh_87 : decode cX5_howHigh 87 = .ok (.iconst 0, 1) := by decide +kernel
theorem dX5_howHigh_88 : decode cX5_howHigh 88 = .ok (.ior, 1) := by decide +kernel
theorem dX5_howHigh_89 : decode cX5_howHigh 89 = .ok (.istore_n 1, 1) := by decide +kernel
theorem dX5_howHigh_90 : decode cX5_howHigh 90 = .ok (.aload_n 0, 1) := by decide +kernel
theorem dX5_howHigh_91 : decode cX5_howHigh 91 = .ok (.invokevirtual 215, 3) := by decide +kernel
theorem dX5_howHigh_94 : decode cX5_howHigh 94 = .ok (.iinc 2 1, 3) := by decide +kernel
theorem dX5_howHigh_97 : decode cX5_howHigh 97 = .ok (.goto (-84), 3) := by decide +kernel
theorem dX5_howHigh_100 : decode cX5_howHigh 100 = .ok (.iload_n 1, 1) := by decide +kernel
theorem dX5_howHigh_101 : decode cX5_howHigh 101 = .ok (.ireturn, 1) := by decide +kernel
abbrev A5_howHigh (G : GG) (Q : Int32 → MM → Prop) := AW G E0 (MZ G (qI Q)) (WY yX5_howHigh cX5_howHigh 5 (some .int)) RX5 cX5_howHigh 5 (some .int) ({ frames := 4, cells := 0, slots := 0, locals := 89 } : Room) 0 0
def D5_howHigh_c64 (K29 : Int32 → Int32 → Int32 → Int32 → MM → Prop) (K13 : Int32 → Int32 → MM → Prop) (Q : Int32 → MM → Prop) (x1 : Int32) (x2 : Int32) (x4 : Int32) (s0 : Int32) (M : MM) : Prop := D5_hourBy (0 : Int32) M (fun (M10 : MM) => (fun v11 : Int32 => K29 x1 x2 s0 v11 M10) (x4 + (1 : Int32)))
def D5_howHigh_c88 (K13 : Int32 → Int32 → MM → Prop) (Q : Int32 → MM → Prop) (x2 : Int32) (s0 : Int32) (s1 : Int32) (M : MM) : Prop := (fun v12 : Int32 => D5_again M (fun (M14 : MM) => (fun v15 : Int32 => K13 v12 v15 M14) (x2 + (1 : Int32)))) (s1 ||| s0)
def D5_howHigh_c76 (K13 : Int32 → Int32 → MM → Prop) (Q : Int32 → MM → Prop) (x1 : Int32) (x2 : Int32) (x3 : Int32) (M : MM) : Prop := ((x3 = 0 → D5_howHigh_c88 K13 Q x2 (0 : Int32) x1 M) ∧ (¬ x3 = 0 → D5_howHigh_c88 K13 Q x2 ((1 : Int32) <<< (x2 &&& 31)) x1 M))
def D5_howHigh_c29 (K13 : Int32 → Int32 → MM → Prop) (Q : Int32 → MM → Prop) : Nat → Int32 → Int32 → Int32 → Int32 → MM → Prop
  | 0, _, _, _, _, _ => False
  | n + 1, x1, x2, x3, x4, M => (((M 62 36) ≤ x4 → D5_howHigh_c76 K13 Q x1 x2 x3 M) ∧ (¬ (M 62 36) ≤ x4 → ((x3 = 0 → D5_howHigh_c76 K13 Q x1 x2 x3 M) ∧ (¬ x3 = 0 → ib 81 x4 ∧ D5_wetNow M (fun (r5 : Int32) (M6 : MM) => D5_onesOf r5 M6 (fun (r7 : Int32) (M8 : MM) => (((M 81 (ix x4)) ≠ r7 → D5_howHigh_c64 (D5_howHigh_c29 K13 Q n) K13 Q x1 x2 x4 (0 : Int32) M8) ∧ ((M 81 (ix x4)) = r7 → D5_howHigh_c64 (D5_howHigh_c29 K13 Q n) K13 Q x1 x2 x4 (1 : Int32) M8))))))))
def D5_howHigh_c13 (Q : Int32 → MM → Prop) : Nat → Int32 → Int32 → MM → Prop
  | 0, _, _, _ => False
  | n + 1, x1, x2, M => (((12 : Int32) ≤ x2 → Q x1 M) ∧ (¬ (12 : Int32) ≤ x2 → (fun M4 : MM => D5_howHigh_c29 (D5_howHigh_c13 Q n) Q FU x1 x2 (1 : Int32) (0 : Int32) M4) (up M 62 8 x2)))
def D5_howHigh (M : MM) (Q : Int32 → MM → Prop) : Prop := (fun M1 : MM => D5_think M1 (fun (M3 : MM) => D5_howHigh_c13 Q FU (0 : Int32) (0 : Int32) M3)) (up M 62 9 (0 : Int32))
set_option maxHeartbeats 4000000 in
set_option maxRecDepth 100000 in
theorem s5_howHigh_c64 {G : GG} {K29 : Int32 → Int32 → Int32 → Int32 → MM → Prop} {K13 : Int32 → Int32 → MM → Prop} {Q : Int32 → MM → Prop} (hK29 : ∀ (x1 : Int32) (x2 : Int32) (x3 : Int32) (x4 : Int32) (M : MM), K29 x1 x2 x3 x4 M → A5_howHigh G Q 29 [(0, .ref (gA G 62)), (1, .int x1), (2, .int x2), (3, .int x3), (4, .int x4)] [] M) (hK13 : ∀ (x1 : Int32) (x2 : Int32) (M : MM), K13 x1 x2 M → A5_howHigh G Q 13 [(0, .ref (gA G 62)), (1, .int x1), (2, .int x2)] [] M) : ∀ (x1 : Int32) (x2 : Int32) (x4 : Int32) (s0 : Int32) (M : MM), D5_howHigh_c64 K29 K13 Q x1 x2 x4 s0 M → A5_howHigh G Q 64 [(0, .ref (gA G 62)), (1, .int x1), (2, .int x2), (4, .int x4)] [.int s0] M := by
  intro x1 x2 x4 s0 M h
  unfold D5_howHigh_c64 at h
  refine a_istore_n (i := 3) (L' := [(3, .int _), (0, .ref _), (1, .int _), (2, .int _), (4, .int _)]) dX5_howHigh_64 rfl (by decide) rfl ?_
  refine a_aload_n dX5_howHigh_65 1 rfl ?_
  refine a_iconst (v := 0) dX5_howHigh_66 (by decide) ?_
  refine a_callVv (n := 1) [.int _] (C := RX5) (ci := 3) (qc := (RX5, TX5, 40)) (fsF := fl3 G _) ob_62.1 (fun _ => en3 ob_62.2) rfl rfl dX5_howHigh_67 (s5_hourBy h) (gV tbc kM_RX5_146_X5_hourBy kI_X5_hourBy kS_X5_hourBy kN_RX5 kC_X5_hourBy) rfl (by decide +kernel) ⟨Nat.le_of_ble_eq_true rfl, Nat.le_of_ble_eq_true rfl⟩ rfl rfl (Nat.le_of_ble_eq_true rfl) ⟨Nat.le_refl 0, Nat.le_refl 0⟩ (fun M h => ?_)
  refine a_iinc (L' := [(4, .int _), (3, .int _), (0, .ref _), (1, .int _), (2, .int _)]) dX5_howHigh_70 4 rfl (show _ + Int32.ofInt (1 : Int) = _ + (1 : Int32) from rfl) (by decide) rfl ?_
  refine a_goto (tgt := 29) dX5_howHigh_73 (by decide) ?_
  refine a_sub [2, 3, 4, 1, 0] rfl ?_
  exact hK29 _ _ _ _ _ h
set_option maxHeartbeats 4000000 in
set_option maxRecDepth 100000 in
theorem s5_howHigh_c88 {G : GG} {K13 : Int32 → Int32 → MM → Prop} {Q : Int32 → MM → Prop} (hK13 : ∀ (x1 : Int32) (x2 : Int32) (M : MM), K13 x1 x2 M → A5_howHigh G Q 13 [(0, .ref (gA G 62)), (1, .int x1), (2, .int x2)] [] M) : ∀ (x2 : Int32) (s0 : Int32) (s1 : Int32) (M : MM), D5_howHigh_c88 K13 Q x2 s0 s1 M → A5_howHigh G Q 88 [(0, .ref (gA G 62)), (2, .int x2)] [.int s0, .int s1] M := by
  intro x2 s0 s1 M h
  unfold D5_howHigh_c88 at h
  refine a_ior dX5_howHigh_88 ?_
  refine a_istore_n (i := 1) (L' := [(1, .int _), (0, .ref _), (2, .int _)]) dX5_howHigh_89 rfl (by decide) rfl ?_
  refine a_aload_n dX5_howHigh_90 1 rfl ?_
  refine a_callVv (n := 0) [] (C := RX5) (ci := 3) (qc := (RX5, TX5, 40)) (fsF := fl3 G _) ob_62.1 (fun _ => en3 ob_62.2) rfl rfl dX5_howHigh_91 (s5_again h) (gV tbc kM_RX5_215_X5_again kI_X5_again kS_X5_again kN_RX5 kC_X5_again) rfl (by decide +kernel) ⟨Nat.le_of_ble_eq_true rfl, Nat.le_of_ble_eq_true rfl⟩ rfl rfl (Nat.le_of_ble_eq_true rfl) ⟨Nat.le_refl 0, Nat.le_refl 0⟩ (fun M h => ?_)
  refine a_iinc (L' := [(2, .int _), (1, .int _), (0, .ref _)]) dX5_howHigh_94 2 rfl (show _ + Int32.ofInt (1 : Int) = _ + (1 : Int32) from rfl) (by decide) rfl ?_
  refine a_goto (tgt := 13) dX5_howHigh_97 (by decide) ?_
  refine a_sub [2, 1, 0] rfl ?_
  exact hK13 _ _ _ h
set_option maxHeartbeats 4000000 in
set_option maxRecDepth 100000 in
theorem s5_howHigh_c76 {G : GG} {K13 : Int32 → Int32 → MM → Prop} {Q : Int32 → MM → Prop} (hK13 : ∀ (x1 : Int32) (x2 : Int32) (M : MM), K13 x1 x2 M → A5_howHigh G Q 13 [(0, .ref (gA G 62)), (1, .int x1), (2, .int x2)] [] M) : ∀ (x1 : Int32) (x2 : Int32) (x3 : Int32) (M : MM), D5_howHigh_c76 K13 Q x1 x2 x3 M → A5_howHigh G Q 76 [(0, .ref (gA G 62)), (1, .int x1), (2, .int x2), (3, .int x3)] [] M := by
  intro x1 x2 x3 M h
  unfold D5_howHigh_c76 at h
  refine a_iload_n dX5_howHigh_76 1 rfl ?_
  refine a_iload_n dX5_howHigh_77 3 rfl ?_
  refine a_if_eq (tgt := 87) dX5_howHigh_78 (by decide) (fun c => ?_) (fun c => ?_)
  · have h := h.1 c
    refine a_iconst (v := 0) dX5_howHigh_87 (by decide) ?_
    refine a_sub [0, 2] rfl ?_
    exact s5_howHigh_c88 hK13 _ _ _ _ h
  · have h := h.2 c
    refine a_iconst (v := 1) dX5_howHigh_81 (by decide) ?_
    refine a_iload_n dX5_howHigh_82 2 rfl ?_
    refine a_ishl dX5_howHigh_83 ?_
    refine a_goto (tgt := 88) dX5_howHigh_84 (by decide) ?_
    refine a_sub [0, 2] rfl ?_
    exact s5_howHigh_c88 hK13 _ _ _ _ h
set_option maxHeartbeats 4000000 in
set_option maxRecDepth 100000 in
theorem s5_howHigh_c29 {G : GG} {K13 : Int32 → Int32 → MM → Prop} {Q : Int32 → MM → Prop} (hK13 : ∀ (x1 : Int32) (x2 : Int32) (M : MM), K13 x1 x2 M → A5_howHigh G Q 13 [(0, .ref (gA G 62)), (1, .int x1), (2, .int x2)] [] M) : ∀ (n : Nat) (x1 : Int32) (x2 : Int32) (x3 : Int32) (x4 : Int32) (M : MM), D5_howHigh_c29 K13 Q n x1 x2 x3 x4 M → A5_howHigh G Q 29 [(0, .ref (gA G 62)), (1, .int x1), (2, .int x2), (3, .int x3), (4, .int x4)] [] M := by
  intro n
  induction n with
  | zero => intro x1 x2 x3 x4 M h; exact h.elim
  | succ n ih =>
    intro x1 x2 x3 x4 M h
    unfold D5_howHigh_c29 at h
    refine a_iload dX5_howHigh_29 4 rfl ?_
    refine a_aload_n dX5_howHigh_31 0 rfl ?_
    refine a_get3 dX5_howHigh_32 36 (by decide) (tbc _ kF_RX5_301) (fun w h => tbc _ (uW3 w h)) rfl ob_62 rfl ?_
    refine a_icmp_ge (tgt := 76) dX5_howHigh_35 (by decide) (fun c => ?_) (fun c => ?_)
    · have h := h.1 c
      refine a_sub [0, 1, 2, 3] rfl ?_
      exact s5_howHigh_c76 hK13 _ _ _ _ h
    · have h := h.2 c
      refine a_iload_n dX5_howHigh_38 3 rfl ?_
      refine a_if_eq (tgt := 76) dX5_howHigh_39 (by decide) (fun c => ?_) (fun c => ?_)
      · have h := h.1 c
        refine a_sub [0, 1, 2, 3] rfl ?_
        exact s5_howHigh_c76 hK13 _ _ _ _ h
      · have h := h.2 c
        refine a_aload_n dX5_howHigh_42 0 rfl ?_
        refine a_get3 dX5_howHigh_43 35 (by decide) (tbc _ kF_RX5_64) (fun w h => tbc _ (uW3 w h)) rfl ob_62 rfl ?_
        refine a_iload dX5_howHigh_46 4 rfl ?_
        refine a_iald dX5_howHigh_48 h.1 ?_
        have h := h.2
        refine a_aload_n dX5_howHigh_49 0 rfl ?_
        refine a_callVi (n := 0) [] (C := RX5) (ci := 3) (qc := (RX5, TX5, 40)) (fsF := fl3 G _) ob_62.1 (fun _ => en3 ob_62.2) rfl rfl dX5_howHigh_50 (s5_wetNow h) (gV tbc kM_RX5_257_X5_wetNow kI_X5_wetNow kS_X5_wetNow kN_RX5 kC_X5_wetNow) rfl (by decide +kernel) ⟨Nat.le_of_ble_eq_true rfl, Nat.le_of_ble_eq_true rfl⟩ rfl rfl (Nat.le_of_ble_eq_true rfl) ⟨Nat.le_refl 0, Nat.le_refl 0⟩ (fun r M h => ?_)
        refine a_callSi (n := 1) [.int _] dX5_howHigh_53 (s5_onesOf h) (gS tbc kM_RX5_254_X5_onesOf kT_X5_onesOf kN_RX5 kC_X5_onesOf) rfl (by decide +kernel) ⟨Nat.le_of_ble_eq_true rfl, Nat.le_of_ble_eq_true rfl⟩ rfl rfl (Nat.le_of_ble_eq_true rfl) ⟨Nat.le_refl 0, Nat.le_refl 0⟩ (fun r M h => ?_)
        refine a_icmp_ne (tgt := 63) dX5_howHigh_56 (by decide) (fun c => ?_) (fun c => ?_)
        · have h := h.1 c
          refine a_iconst (v := 0) dX5_howHigh_63 (by decide) ?_
          refine a_sub [0, 1, 2, 4] rfl ?_
          exact s5_howHigh_c64 ih hK13 _ _ _ _ _ h
        · have h := h.2 c
          refine a_iconst (v := 1) dX5_howHigh_59 (by decide) ?_
          refine a_goto (tgt := 64) dX5_howHigh_60 (by decide) ?_
          refine a_sub [0, 1, 2, 4] rfl ?_
          exact s5_howHigh_c64 ih hK13 _ _ _ _ _ h
set_option maxHeartbeats 4000000 in
set_option maxRecDepth 100000 in
theorem s5_howHigh_c13 {G : GG} {Q : Int32 → MM → Prop} : ∀ (n : Nat) (x1 : Int32) (x2 : Int32) (M : MM), D5_howHigh_c13 Q n x1 x2 M → A5_howHigh G Q 13 [(0, .ref (gA G 62)), (1, .int x1), (2, .int x2)] [] M := by
  intro n
  induction n with
  | zero => intro x1 x2 M h; exact h.elim
  | succ n ih =>
    intro x1 x2 M h
    unfold D5_howHigh_c13 at h
    refine a_iload_n dX5_howHigh_13 2 rfl ?_
    refine a_bipush (v := 12) dX5_howHigh_14 (by decide) ?_
    refine a_icmp_ge (tgt := 100) dX5_howHigh_16 (by decide) (fun c => ?_) (fun c => ?_)
    · have h := h.1 c
      refine a_iload_n dX5_howHigh_100 1 rfl ?_
      exact a_iret dX5_howHigh_101 ⟨_, rfl, h⟩
    · have h := h.2 c
      refine a_aload_n dX5_howHigh_19 0 rfl ?_
      refine a_iload_n dX5_howHigh_20 2 rfl ?_
      refine a_put3 dX5_howHigh_21 8 (by decide) (tbc _ kF_RX5_114) (fun w h => tbc _ (uW3 w h)) rfl rfl rfl rfl ob_62 fs3_8 ?_
      refine a_iconst (v := 1) dX5_howHigh_24 (by decide) ?_
      refine a_istore_n (i := 3) (L' := [(3, .int _), (0, .ref _), (1, .int _), (2, .int _)]) dX5_howHigh_25 rfl (by decide) rfl ?_
      refine a_iconst (v := 0) dX5_howHigh_26 (by decide) ?_
      refine a_istore (i := 4) (L' := [(4, .int _), (3, .int _), (0, .ref _), (1, .int _), (2, .int _)]) dX5_howHigh_27 (by decide) rfl ?_
      refine a_sub [2, 3, 4, 1, 0] rfl ?_
      exact s5_howHigh_c29 ih _ _ _ _ _ _ h
set_option maxHeartbeats 4000000 in
set_option maxRecDepth 100000 in
theorem s5_howHigh {G : GG} {M : MM} {Q : Int32 → MM → Prop} (h : D5_howHigh M Q) : CM G yX5_howHigh (WY yX5_howHigh cX5_howHigh 5 (some .int)) 4 89 [.ref (gA G 62)] M (qI Q) := by
  refine CM.of (cc := cX5_howHigh) (nL := 5) (ret := (some .int)) (own := RX5) (by decide +kernel) rfl rfl (Nat.le_of_ble_eq_true rfl) ?_
  show A5_howHigh G Q 0 [(0, .ref (gA G 62))] [] M
  unfold D5_howHigh at h
  refine a_aload_n dX5_howHigh_0 0 rfl ?_
  refine a_iconst (v := 0) dX5_howHigh_1 (by decide) ?_
  refine a_put3 dX5_howHigh_2 9 (by decide) (tbc _ kF_RX5_73) (fun w h => tbc _ (uW3 w h)) rfl rfl rfl rfl ob_62 fs3_9 ?_
  refine a_iconst (v := 0) dX5_howHigh_5 (by decide) ?_
  refine a_istore_n (i := 1) (L' := [(1, .int _), (0, .ref _)]) dX5_howHigh_6 rfl (by decide) rfl ?_
  refine a_aload_n dX5_howHigh_7 1 rfl ?_
  refine a_callVv (n := 0) [] (C := RX5) (ci := 3) (qc := (RX5, TX5, 40)) (fsF := fl3 G _) ob_62.1 (fun _ => en3 ob_62.2) rfl rfl dX5_howHigh_8 (s5_think h) (gV tbc kM_RX5_209_X5_think kI_X5_think kS_X5_think kN_RX5 kC_X5_think) rfl (by decide +kernel) ⟨Nat.le_of_ble_eq_true rfl, Nat.le_of_ble_eq_true rfl⟩ rfl rfl (Nat.le_of_ble_eq_true rfl) ⟨Nat.le_refl 0, Nat.le_refl 0⟩ (fun M h => ?_)
  refine a_iconst (v := 0) dX5_howHigh_11 (by decide) ?_
  refine a_istore_n (i := 2) (L' := [(2, .int _), (1, .int _), (0, .ref _)]) dX5_howHigh_12 rfl (by decide) rfl ?_
  refine a_sub [2, 1, 0] rfl ?_
  exact s5_howHigh_c13 _ _ _ _ h

/-! X5_image -/
theorem dX5_image_0 : decode cX5_image 0 = .ok (.aload_n 0, 1) := by decide +kernel
theorem dX5_image_1 : decode cX5_image 1 = .ok (.iconst 0, 1) := by decide +kernel
theorem dX5_image_2 : decode cX5_image 2 = .ok (.putfield 73, 3) := by decide +kernel
theorem dX5_image_5 : decode cX5_image 5 = .ok (.aload_n 0, 1) := by decide +kernel
theorem dX5_image_6 : decode cX5_image 6 = .ok (.iconst 1, 1) := by decide +kernel
theorem dX5_image_7 : decode cX5_image 7 = .ok (.putfield 237, 3) := by decide +kernel
theorem dX5_image_10 : decode cX5_image 10 = .ok (.aload_n 0, 1) := by decide +kernel
theorem dX5_image_11 : decode cX5_image 11 = .ok (.aload_n 0, 1) := by decide +kernel
theorem dX5_image_12 : decode cX5_image 12 = .ok (.getfield 49, 3) := by decide +kernel
theorem dX5_image_15 : decode cX5_image 15 = .ok (.iconst 1, 1) := by decide +kernel
theorem dX5_image_16 : decode cX5_image 16 = .ok (.invokevirtual 233, 3) := by decide +kernel
theorem dX5_image_19 : decode cX5_image 19 = .ok (.aload_n 0, 1) := by decide +kernel
theorem dX5_image_20 : decode cX5_image 20 = .ok (.getfield 114, 3) := by decide +kernel
theorem dX5_image_23 : decode cX5_image 23 = .ok (.ireturn, 1) := by decide +kernel
abbrev A5_image (G : GG) (Q : Int32 → MM → Prop) := AW G E0 (MZ G (qI Q)) (WY yX5_image cX5_image 1 (some .int)) RX5 cX5_image 1 (some .int) ({ frames := 2, cells := 0, slots := 0, locals := 44 } : Room) 0 0
def D5_image (M : MM) (Q : Int32 → MM → Prop) : Prop := (fun M1 : MM => (fun M2 : MM => D5_carryAll 76 (1 : Int32) M2 (fun (M4 : MM) => Q (M4 62 8) M4)) (up M1 62 26 (1 : Int32))) (up M 62 9 (0 : Int32))
set_option maxHeartbeats 4000000 in
set_option maxRecDepth 100000 in
theorem s5_image {G : GG} {M : MM} {Q : Int32 → MM → Prop} (h : D5_image M Q) : CM G yX5_image (WY yX5_image cX5_image 1 (some .int)) 2 44 [.ref (gA G 62)] M (qI Q) := by
  refine CM.of (cc := cX5_image) (nL := 1) (ret := (some .int)) (own := RX5) (by decide +kernel) rfl rfl (Nat.le_of_ble_eq_true rfl) ?_
  show A5_image G Q 0 [(0, .ref (gA G 62))] [] M
  unfold D5_image at h
  refine a_aload_n dX5_image_0 0 rfl ?_
  refine a_iconst (v := 0) dX5_image_1 (by decide) ?_
  refine a_put3 dX5_image_2 9 (by decide) (tbc _ kF_RX5_73) (fun w h => tbc _ (uW3 w h)) rfl rfl rfl rfl ob_62 fs3_9 ?_
  refine a_aload_n dX5_image_5 0 rfl ?_
  refine a_iconst (v := 1) dX5_image_6 (by decide) ?_
  refine a_put3 dX5_image_7 26 (by decide) (tbc _ kF_RX5_237) (fun w h => tbc _ (uW3 w h)) rfl rfl rfl rfl ob_62 fs3_26 ?_
  refine a_aload_n dX5_image_10 0 rfl ?_
  refine a_aload_n dX5_image_11 0 rfl ?_
  refine a_get3 dX5_image_12 25 (by decide) (tbc _ kF_RX5_49) (fun w h => tbc _ (uW3 w h)) rfl ob_62 rfl ?_
  refine a_iconst (v := 1) dX5_image_15 (by decide) ?_
  refine a_callVv (n := 2) [.ref _, .int _] (C := RX5) (ci := 3) (qc := (RX5, TX5, 40)) (fsF := fl3 G _) ob_62.1 (fun _ => en3 ob_62.2) rfl rfl dX5_image_16 (s5_carryAll h) (gV tbc kM_RX5_233_X5_carryAll kI_X5_carryAll kS_X5_carryAll kN_RX5 kC_X5_carryAll) rfl (by decide +kernel) ⟨Nat.le_of_ble_eq_true rfl, Nat.le_of_ble_eq_true rfl⟩ rfl rfl (Nat.le_of_ble_eq_true rfl) ⟨Nat.le_refl 0, Nat.le_refl 0⟩ (fun M h => ?_)
  refine a_aload_n dX5_image_19 0 rfl ?_
  refine a_get3 dX5_image_20 8 (by decide) (tbc _ kF_RX5_114) (fun w h => tbc _ (uW3 w h)) rfl ob_62 rfl ?_
  exact a_iret dX5_image_23 ⟨_, rfl, h⟩

/-! X5_isRow -/
theorem dX5_isRow_0 : decode cX5_isRow 0 = .ok (.iconst 1, 1) := by decide +kernel
theorem dX5_isRow_1 : decode cX5_isRow 1 = .ok (.istore_n 2, 1) := by decide +kernel
theorem dX5_isRow_2 : decode cX5_isRow 2 = .ok (.iconst 0, 1) := by decide +kernel
theorem dX5_isRow_3 : decode cX5_isRow 3 = .ok (.istore_n 3, 1) := by decide +kernel
theorem dX5_isRow_4 : decode cX5_isRow 4 = .ok (.iload_n 3, 1) := by decide +kernel
theorem dX5_isRow_5 : decode cX5_isRow 5 = .ok (.aload_n 0, 1) := by decide +kernel
theorem dX5_isRow_6 : decode cX5_isRow 6 = .ok (.getfield 301, 3) := by decide +kernel
theorem dX5_isRow_9 : decode cX5_isRow 9 = .ok (.if_icmp .ge 39, 3) := by decide +kernel
theorem dX5_isRow_12 : decode cX5_isRow 12 = .ok (.iload_n 2, 1) := by decide +kernel
theorem dX5_isRow_13 : decode cX5_isRow 13 = .ok (.ifCond .eq 35, 3) := by decide +kernel
theorem dX5_isRow_16 : decode cX5_isRow 16 = .ok (.aload_n 0, 1) := by decide +kernel
theorem dX5_isRow_17 : decode cX5_isRow 17 = .ok (.getfield 64, 3) := by decide +kernel
theorem dX5_isRow_20 : decode cX5_isRow 20 = .ok (.iload_n 3, 1) := by decide +kernel
theorem dX5_isRow_21 : decode cX5_isRow 21 = .ok (.iaload, 1) := by decide +kernel
theorem dX5_isRow_22 : decode cX5_isRow 22 = .ok (.aload_n 0, 1) := by decide +kernel
theorem dX5_isRow_23 : decode cX5_isRow 23 = .ok (.getfield 19, 3) := by decide +kernel
theorem dX5_isRow_26 : decode cX5_isRow 26 = .ok (.iload_n 1, 1) := by decide +kernel
theorem dX5_isRow_27 : decode cX5_isRow 27 = .ok (.iaload, 1) := by decide +kernel
theorem dX5_isRow_28 : decode cX5_isRow 28 = .ok (.if_icmp .ne 7, 3) := by decide +kernel
theorem dX5_isRow_31 : decode cX5_isRow 31 = .ok (.iconst 1, 1) := by decide +kernel
theorem dX5_isRow_32 : decode cX5_isRow 32 = .ok (.goto 4, 3) := by decide +kernel
theorem dX5_isRow_35 : decode cX5_isRow 35 = .ok (.iconst 0, 1) := by decide +kernel
theorem dX5_isRow_36 : decode cX5_isRow 36 = .ok (.istore_n 2, 1) := by decide +kernel
theorem dX5_isRow_37 : decode cX5_isRow 37 = .ok (.aload_n 0, 1) := by decide +kernel
theorem dX5_isRow_38 : decode cX5_isRow 38 = .ok (.iconst 0, 1) := by decide +kernel
theorem dX5_isRow_39 : decode cX5_isRow 39 = .ok (.invokevirtual 146, 3) := by decide +kernel
theorem dX5_isRow_42 : decode cX5_isRow 42 = .ok (.iinc 3 1, 3) := by decide +kernel
theorem dX5_isRow_45 : decode cX5_isRow 45 = .ok (.goto (-41), 3) := by decide +kernel
theorem dX5_isRow_48 : decode cX5_isRow 48 = .ok (.aload_n 0, 1) := by decide +kernel
theorem dX5_isRow_49 : decode cX5_isRow 49 = .ok (.invokevirtual 215, 3) := by decide +kernel
theorem dX5_isRow_52 : decode cX5_isRow 52 = .ok (.iload_n 2, 1) := by decide +kernel
theorem dX5_isRow_53 : decode cX5_isRow 53 = .ok (.ireturn, 1) := by decide +kernel
abbrev A5_isRow (G : GG) (Q : Int32 → MM → Prop) := AW G E0 (MZ G (qI Q)) (WY yX5_isRow cX5_isRow 4 (some .boolean)) RX5 cX5_isRow 4 (some .boolean) ({ frames := 4, cells := 0, slots := 0, locals := 89 } : Room) 0 0
def D5_isRow_c36 (K4 : Int32 → Int32 → Int32 → MM → Prop) (Q : Int32 → MM → Prop) (x1 : Int32) (x3 : Int32) (s0 : Int32) (M : MM) : Prop := D5_hourBy (0 : Int32) M (fun (M4 : MM) => (fun v5 : Int32 => K4 x1 s0 v5 M4) (x3 + (1 : Int32)))
def D5_isRow_c48 (Q : Int32 → MM → Prop) (x2 : Int32) (M : MM) : Prop := D5_again M (fun (M2 : MM) => bo x2 ∧ Q x2 M2)
def D5_isRow_c4 (Q : Int32 → MM → Prop) : Nat → Int32 → Int32 → Int32 → MM → Prop
  | 0, _, _, _, _ => False
  | n + 1, x1, x2, x3, M => (((M 62 36) ≤ x3 → D5_isRow_c48 Q x2 M) ∧ (¬ (M 62 36) ≤ x3 → ((x2 = 0 → D5_isRow_c48 Q x2 M) ∧ (¬ x2 = 0 → ib 81 x3 ∧ ib 66 x1 ∧ (((M 81 (ix x3)) ≠ (M 66 (ix x1)) → D5_isRow_c36 (D5_isRow_c4 Q n) Q x1 x3 (0 : Int32) M) ∧ ((M 81 (ix x3)) = (M 66 (ix x1)) → D5_isRow_c36 (D5_isRow_c4 Q n) Q x1 x3 (1 : Int32) M))))))
def D5_isRow (x1 : Int32) (M : MM) (Q : Int32 → MM → Prop) : Prop := D5_isRow_c4 Q FU x1 (1 : Int32) (0 : Int32) M
set_option maxHeartbeats 4000000 in
set_option maxRecDepth 100000 in
theorem s5_isRow_c36 {G : GG} {K4 : Int32 → Int32 → Int32 → MM → Prop} {Q : Int32 → MM → Prop} (hK4 : ∀ (x1 : Int32) (x2 : Int32) (x3 : Int32) (M : MM), K4 x1 x2 x3 M → A5_isRow G Q 4 [(0, .ref (gA G 62)), (1, .int x1), (2, .int x2), (3, .int x3)] [] M) : ∀ (x1 : Int32) (x3 : Int32) (s0 : Int32) (M : MM), D5_isRow_c36 K4 Q x1 x3 s0 M → A5_isRow G Q 36 [(0, .ref (gA G 62)), (1, .int x1), (3, .int x3)] [.int s0] M := by
  intro x1 x3 s0 M h
  unfold D5_isRow_c36 at h
  refine a_istore_n (i := 2) (L' := [(2, .int _), (0, .ref _), (1, .int _), (3, .int _)]) dX5_isRow_36 rfl (by decide) rfl ?_
  refine a_aload_n dX5_isRow_37 1 rfl ?_
  refine a_iconst (v := 0) dX5_isRow_38 (by decide) ?_
  refine a_callVv (n := 1) [.int _] (C := RX5) (ci := 3) (qc := (RX5, TX5, 40)) (fsF := fl3 G _) ob_62.1 (fun _ => en3 ob_62.2) rfl rfl dX5_isRow_39 (s5_hourBy h) (gV tbc kM_RX5_146_X5_hourBy kI_X5_hourBy kS_X5_hourBy kN_RX5 kC_X5_hourBy) rfl (by decide +kernel) ⟨Nat.le_of_ble_eq_true rfl, Nat.le_of_ble_eq_true rfl⟩ rfl rfl (Nat.le_of_ble_eq_true rfl) ⟨Nat.le_refl 0, Nat.le_refl 0⟩ (fun M h => ?_)
  refine a_iinc (L' := [(3, .int _), (2, .int _), (0, .ref _), (1, .int _)]) dX5_isRow_42 3 rfl (show _ + Int32.ofInt (1 : Int) = _ + (1 : Int32) from rfl) (by decide) rfl ?_
  refine a_goto (tgt := 4) dX5_isRow_45 (by decide) ?_
  refine a_sub [2, 3, 1, 0] rfl ?_
  exact hK4 _ _ _ _ h
set_option maxHeartbeats 4000000 in
set_option maxRecDepth 100000 in
theorem s5_isRow_c48 {G : GG} {Q : Int32 → MM → Prop} : ∀ (x2 : Int32) (M : MM), D5_isRow_c48 Q x2 M → A5_isRow G Q 48 [(0, .ref (gA G 62)), (2, .int x2)] [] M := by
  intro x2 M h
  unfold D5_isRow_c48 at h
  refine a_aload_n dX5_isRow_48 0 rfl ?_
  refine a_callVv (n := 0) [] (C := RX5) (ci := 3) (qc := (RX5, TX5, 40)) (fsF := fl3 G _) ob_62.1 (fun _ => en3 ob_62.2) rfl rfl dX5_isRow_49 (s5_again h) (gV tbc kM_RX5_215_X5_again kI_X5_again kS_X5_again kN_RX5 kC_X5_again) rfl (by decide +kernel) ⟨Nat.le_of_ble_eq_true rfl, Nat.le_of_ble_eq_true rfl⟩ rfl rfl (Nat.le_of_ble_eq_true rfl) ⟨Nat.le_refl 0, Nat.le_refl 0⟩ (fun M h => ?_)
  refine a_iload_n dX5_isRow_52 1 rfl ?_
  exact a_zret dX5_isRow_53 h.1 ⟨_, rfl, h.2⟩
set_option maxHeartbeats 4000000 in
set_option maxRecDepth 100000 in
theorem s5_isRow_c4 {G : GG} {Q : Int32 → MM → Prop} : ∀ (n : Nat) (x1 : Int32) (x2 : Int32) (x3 : Int32) (M : MM), D5_isRow_c4 Q n x1 x2 x3 M → A5_isRow G Q 4 [(0, .ref (gA G 62)), (1, .int x1), (2, .int x2), (3, .int x3)] [] M := by
  intro n
  induction n with
  | zero => intro x1 x2 x3 M h; exact h.elim
  | succ n ih =>
    intro x1 x2 x3 M h
    unfold D5_isRow_c4 at h
    refine a_iload_n dX5_isRow_4 3 rfl ?_
    refine a_aload_n dX5_isRow_5 0 rfl ?_
    refine a_get3 dX5_isRow_6 36 (by decide) (tbc _ kF_RX5_301) (fun w h => tbc _ (uW3 w h)) rfl ob_62 rfl ?_
    refine a_icmp_ge (tgt := 48) dX5_isRow_9 (by decide) (fun c => ?_) (fun c => ?_)
    · have h := h.1 c
      refine a_sub [0, 2] rfl ?_
      exact s5_isRow_c48 _ _ h
    · have h := h.2 c
      refine a_iload_n dX5_isRow_12 2 rfl ?_
      refine a_if_eq (tgt := 48) dX5_isRow_13 (by decide) (fun c => ?_) (fun c => ?_)
      · have h := h.1 c
        refine a_sub [0, 2] rfl ?_
        exact s5_isRow_c48 _ _ h
      · have h := h.2 c
        refine a_aload_n dX5_isRow_16 0 rfl ?_
        refine a_get3 dX5_isRow_17 35 (by decide) (tbc _ kF_RX5_64) (fun w h => tbc _ (uW3 w h)) rfl ob_62 rfl ?_
        refine a_iload_n dX5_isRow_20 3 rfl ?_
        refine a_iald dX5_isRow_21 h.1 ?_
        have h := h.2
        refine a_aload_n dX5_isRow_22 0 rfl ?_
        refine a_get3 dX5_isRow_23 4 (by decide) (tbc _ kF_RX5_19) (fun w h => tbc _ (uW3 w h)) rfl ob_62 rfl ?_
        refine a_iload_n dX5_isRow_26 1 rfl ?_
        refine a_iald dX5_isRow_27 h.1 ?_
        have h := h.2
        refine a_icmp_ne (tgt := 35) dX5_isRow_28 (by decide) (fun c => ?_) (fun c => ?_)
        · have h := h.1 c
          refine a_iconst (v := 0) dX5_isRow_35 (by decide) ?_
          refine a_sub [0, 1, 3] rfl ?_
          exact s5_isRow_c36 ih _ _ _ _ h
        · have h := h.2 c
          refine a_iconst (v := 1) dX5_isRow_31 (by decide) ?_
          refine a_goto (tgt := 36) dX5_isRow_32 (by decide) ?_
          refine a_sub [0, 1, 3] rfl ?_
          exact s5_isRow_c36 ih _ _ _ _ h
set_option maxHeartbeats 4000000 in
set_option maxRecDepth 100000 in
theorem s5_isRow {G : GG} {x1 : Int32} {M : MM} {Q : Int32 → MM → Prop} (h : D5_isRow x1 M Q) : CM G yX5_isRow (WY yX5_isRow cX5_isRow 4 (some .boolean)) 4 89 [.ref (gA G 62), .int x1] M (qI Q) := by
  refine CM.of (cc := cX5_isRow) (nL := 4) (ret := (some .boolean)) (own := RX5) (by decide +kernel) rfl rfl (Nat.le_of_ble_eq_true rfl) ?_
  show A5_isRow G Q 0 [(0, .ref (gA G 62)), (1, .int x1)] [] M
  unfold D5_isRow at h
  refine a_iconst (v := 1) dX5_isRow_0 (by decide) ?_
  refine a_istore_n (i := 2) (L' := [(2, .int _), (0, .ref _), (1, .int _)]) dX5_isRow_1 rfl (by decide) rfl ?_
  refine a_iconst (v := 0) dX5_isRow_2 (by decide) ?_
  refine a_istore_n (i := 3) (L' := [(3, .int _), (2, .int _), (0, .ref _), (1, .int _)]) dX5_isRow_3 rfl (by decide) rfl ?_
  refine a_sub [2, 3, 1, 0] rfl ?_
  exact s5_isRow_c4 _ _ _ _ _ h

/-! X5_judge -/
theorem dX5_judge_0 : decode cX5_judge 0 = .ok (.aload_n 0, 1) := by decide +kernel
theorem dX5_judge_1 : decode cX5_judge 1 = .ok (.iconst 0, 1) := by decide +kernel
theorem dX5_judge_2 : decode cX5_judge 2 = .ok (.putfield 73, 3) := by decide +kernel
theorem dX5_judge_5 : decode cX5_judge 5 = .ok (.aload_n 0, 1) := by decide +kernel
theorem dX5_judge_6 : decode cX5_judge 6 = .ok (.getfield 301, 3) := by decide +kernel
theorem dX5_judge_9 : decode cX5_judge 9 = .ok (.istore_n 1, 1) := by decide +kernel
theorem dX5_judge_10 : decode cX5_judge 10 = .ok (.aload_n 0, 1) := by decide +kernel
theorem dX5_judge_11 : decode cX5_judge 11 = .ok (.iconst 0, 1) := by decide +kernel
theorem dX5_judge_12 : decode cX5_judge 12 = .ok (.putfield 301, 3) := by decide +kernel
theorem dX5_judge_15 : decode cX5_judge 15 = .ok (.iconst 0, 1) := by decide +kernel
theorem dX5_judge_16 : decode cX5_judge 16 = .ok (.istore_n 2, 1) := by decide +kernel
theorem dX5_judge_17 : decode cX5_judge 17 = .ok (.iload_n 2, 1) := by decide +kernel
theorem dX5_judge_18 : decode cX5_judge 18 = .ok (.iload_n 1, 1) := by decide +kernel
theorem dX5_judge_19 : decode cX5_judge 19 = .ok (.if_icmp .ge 33, 3) := by decide +kernel
theorem dX5_judge_22 : decode cX5_judge 22 = .ok (.iload_n 2, 1) := by decide +kernel
theorem dX5_judge_23 : decode cX5_judge 23 = .ok (.aload_n 0, 1) := by decide +kernel
theorem dX5_judge_24 : decode cX5_judge 24 = .ok (.getfield 77, 3) := by decide +kernel
theorem dX5_judge_27 : decode cX5_judge 27 = .ok (.if_icmp .ge 17, 3) := by decide +kernel
theorem dX5_judge_30 : decode cX5_judge 30 = .ok (.aload_n 0, 1) := by decide +kernel
theorem dX5_judge_31 : decode cX5_judge 31 = .ok (.getfield 64, 3) := by decide +kernel
theorem dX5_judge_34 : decode cX5_judge 34 = .ok (.iload_n 2, 1) := by decide +kernel
theorem dX5_judge_35 : decode cX5_judge 35 = .ok (.iaload, 1) := by decide +kernel
theorem dX5_judge_36 : decode cX5_judge 36 = .ok (.aload_n 0, 1) := by decide +kernel
theorem dX5_judge_37 : decode cX5_judge 37 = .ok (.iload_n 2, 1) := by decide +kernel
theorem dX5_judge_38 : decode cX5_judge 38 = .ok (.invokevirtual 140, 3) := by decide +kernel
theorem dX5_judge_41 : decode cX5_judge 41 = .ok (.if_icmp .eq 5, 3) := by decide +kernel
theorem dX5_judge_44 : decode cX5_judge 44 = .ok (.iload_n 2, 1) := by decide +kernel
theorem dX5_judge_45 : decode cX5_judge 45 = .ok (.ireturn, 1) := by decide +kernel
theorem dX5_judge_46 : decode cX5_judge 46 = .ok (.iinc 2 1, 3) := by decide +kernel
theorem dX5_judge_49 : decode cX5_judge 49 = .ok (.goto (-32), 3) := by decide +kernel
theorem dX5_judge_52 : decode cX5_judge 52 = .ok (.bipush (-9), 2) := by decide +kernel
theorem dX5_judge_54 : decode cX5_judge 54 = .ok (.ireturn, 1) := by decide +kernel
abbrev A5_judge (G : GG) (Q : Int32 → MM → Prop) := AW G E0 (MZ G (qI Q)) (WY yX5_judge cX5_judge 3 (some .int)) RX5 cX5_judge 3 (some .int) ({ frames := 1, cells := 0, slots := 0, locals := 22 } : Room) 0 0
def D5_judge_c17 (Q : Int32 → MM → Prop) : Nat → Int32 → Int32 → MM → Prop
  | 0, _, _, _ => False
  | n + 1, x1, x2, M => ((x1 ≤ x2 → Q (-9 : Int32) M) ∧ (¬ x1 ≤ x2 → (((M 62 0) ≤ x2 → Q x2 M) ∧ (¬ (M 62 0) ≤ x2 → ib 81 x2 ∧ D5_rateOf x2 M (fun (r4 : Int32) (M5 : MM) => (((M 81 (ix x2)) = r4 → (fun v6 : Int32 => D5_judge_c17 Q n x1 v6 M5) (x2 + (1 : Int32))) ∧ (¬ (M 81 (ix x2)) = r4 → Q x2 M5)))))))
def D5_judge (M : MM) (Q : Int32 → MM → Prop) : Prop := (fun M1 : MM => (fun v2 : Int32 => (fun M3 : MM => D5_judge_c17 Q FU v2 (0 : Int32) M3) (up M1 62 36 (0 : Int32))) (M1 62 36)) (up M 62 9 (0 : Int32))
set_option maxHeartbeats 4000000 in
set_option maxRecDepth 100000 in
theorem s5_judge_c17 {G : GG} {Q : Int32 → MM → Prop} : ∀ (n : Nat) (x1 : Int32) (x2 : Int32) (M : MM), D5_judge_c17 Q n x1 x2 M → A5_judge G Q 17 [(0, .ref (gA G 62)), (1, .int x1), (2, .int x2)] [] M := by
  intro n
  induction n with
  | zero => intro x1 x2 M h; exact h.elim
  | succ n ih =>
    intro x1 x2 M h
    unfold D5_judge_c17 at h
    refine a_iload_n dX5_judge_17 2 rfl ?_
    refine a_iload_n dX5_judge_18 1 rfl ?_
    refine a_icmp_ge (tgt := 52) dX5_judge_19 (by decide) (fun c => ?_) (fun c => ?_)
    · have h := h.1 c
      refine a_bipush (v := -9) dX5_judge_52 (by decide) ?_
      exact a_iret dX5_judge_54 ⟨_, rfl, h⟩
    · have h := h.2 c
      refine a_iload_n dX5_judge_22 2 rfl ?_
      refine a_aload_n dX5_judge_23 0 rfl ?_
      refine a_get3 dX5_judge_24 0 (by decide) (tbc _ kF_RX5_77) (fun w h => tbc _ (uW3 w h)) rfl ob_62 rfl ?_
      refine a_icmp_ge (tgt := 44) dX5_judge_27 (by decide) (fun c => ?_) (fun c => ?_)
      · have h := h.1 c
        refine a_iload_n dX5_judge_44 2 rfl ?_
        exact a_iret dX5_judge_45 ⟨_, rfl, h⟩
      · have h := h.2 c
        refine a_aload_n dX5_judge_30 0 rfl ?_
        refine a_get3 dX5_judge_31 35 (by decide) (tbc _ kF_RX5_64) (fun w h => tbc _ (uW3 w h)) rfl ob_62 rfl ?_
        refine a_iload_n dX5_judge_34 2 rfl ?_
        refine a_iald dX5_judge_35 h.1 ?_
        have h := h.2
        refine a_aload_n dX5_judge_36 0 rfl ?_
        refine a_iload_n dX5_judge_37 2 rfl ?_
        refine a_callVi (n := 1) [.int _] (C := RX5) (ci := 3) (qc := (RX5, TX5, 40)) (fsF := fl3 G _) ob_62.1 (fun _ => en3 ob_62.2) rfl rfl dX5_judge_38 (s5_rateOf h) (gV tbc kM_RX5_140_X5_rateOf kI_X5_rateOf kS_X5_rateOf kN_RX5 kC_X5_rateOf) rfl (by decide +kernel) ⟨Nat.le_of_ble_eq_true rfl, Nat.le_of_ble_eq_true rfl⟩ rfl rfl (Nat.le_of_ble_eq_true rfl) ⟨Nat.le_refl 0, Nat.le_refl 0⟩ (fun r M h => ?_)
        refine a_icmp_eq (tgt := 46) dX5_judge_41 (by decide) (fun c => ?_) (fun c => ?_)
        · have h := h.1 c
          refine a_iinc (L' := [(2, .int _), (0, .ref _), (1, .int _)]) dX5_judge_46 2 rfl (show _ + Int32.ofInt (1 : Int) = _ + (1 : Int32) from rfl) (by decide) rfl ?_
          refine a_goto (tgt := 17) dX5_judge_49 (by decide) ?_
          refine a_sub [1, 2, 0] rfl ?_
          exact ih _ _ _ h
        · have h := h.2 c
          refine a_iload_n dX5_judge_44 2 rfl ?_
          exact a_iret dX5_judge_45 ⟨_, rfl, h⟩
set_option maxHeartbeats 4000000 in
set_option maxRecDepth 100000 in
theorem s5_judge {G : GG} {M : MM} {Q : Int32 → MM → Prop} (h : D5_judge M Q) : CM G yX5_judge (WY yX5_judge cX5_judge 3 (some .int)) 1 22 [.ref (gA G 62)] M (qI Q) := by
  refine CM.of (cc := cX5_judge) (nL := 3) (ret := (some .int)) (own := RX5) (by decide +kernel) rfl rfl (Nat.le_of_ble_eq_true rfl) ?_
  show A5_judge G Q 0 [(0, .ref (gA G 62))] [] M
  unfold D5_judge at h
  refine a_aload_n dX5_judge_0 0 rfl ?_
  refine a_iconst (v := 0) dX5_judge_1 (by decide) ?_
  refine a_put3 dX5_judge_2 9 (by decide) (tbc _ kF_RX5_73) (fun w h => tbc _ (uW3 w h)) rfl rfl rfl rfl ob_62 fs3_9 ?_
  refine a_aload_n dX5_judge_5 0 rfl ?_
  refine a_get3 dX5_judge_6 36 (by decide) (tbc _ kF_RX5_301) (fun w h => tbc _ (uW3 w h)) rfl ob_62 rfl ?_
  refine a_istore_n (i := 1) (L' := [(1, .int _), (0, .ref _)]) dX5_judge_9 rfl (by decide) rfl ?_
  refine a_aload_n dX5_judge_10 1 rfl ?_
  refine a_iconst (v := 0) dX5_judge_11 (by decide) ?_
  refine a_put3 dX5_judge_12 36 (by decide) (tbc _ kF_RX5_301) (fun w h => tbc _ (uW3 w h)) rfl rfl rfl rfl ob_62 fs3_36 ?_
  refine a_iconst (v := 0) dX5_judge_15 (by decide) ?_
  refine a_istore_n (i := 2) (L' := [(2, .int _), (1, .int _), (0, .ref _)]) dX5_judge_16 rfl (by decide) rfl ?_
  refine a_sub [2, 1, 0] rfl ?_
  exact s5_judge_c17 _ _ _ _ h

/-! X5_wrongBit -/
theorem dX5_wrongBit_0 : decode cX5_wrongBit 0 = .ok (.iload_n 0, 1) := by decide +kernel
theorem dX5_wrongBit_1 : decode cX5_wrongBit 1 = .ok (.ifCond .ne 19, 3) := by decide +kernel
theorem dX5_wrongBit_4 : decode cX5_wrongBit 4 = .ok (.iload_n 1, 1) := by decide +kernel
theorem dX5_wrongBit_5 : decode cX5_wrongBit 5 = .ok (.i2l, 1) := by decide +kernel
theorem dX5_wrongBit_6 : decode cX5_wrongBit 6 = .ok (.lconst 0, 1) := by decide +kernel
theorem dX5_wrongBit_7 : decode cX5_wrongBit 7 = .ok (.iload_n 2, 1) := by decide +kernel
theorem dX5_wrongBit_8 : decode cX5_wrongBit 8 = .ok (.i2l, 1) := by decide +kernel
theorem dX5_wrongBit_9 : decode cX5_wrongBit 9 = .ok (.invokestatic 80, 3) := by decide +kernel
theorem dX5_wrongBit_12 : decode cX5_wrongBit 12 = .ok (.ifCond .ne 8, 3) := by decide +kernel
theorem dX5_wrongBit_15 : decode cX5_wrongBit 15 = .ok (.bipush (-2), 2) := by decide +kernel
theorem dX5_wrongBit_17 : decode cX5_wrongBit 17 = .ok (.goto 4, 3) := by decide +kernel
theorem dX5_wrongBit_20 : decode cX5_wrongBit 20 = .ok (.iload_n 0, 1) := by decide +kernel
theorem dX5_wrongBit_21 : decode cX5_wrongBit 21 = .ok (.ireturn, 1) := by decide +kernel
abbrev A5_wrongBit (G : GG) (Q : Int32 → MM → Prop) := AW G E0 (MZ G (qI Q)) (WY yX5_wrongBit cX5_wrongBit 3 (some .int)) RX5 cX5_wrongBit 3 (some .int) ({ frames := 1, cells := 0, slots := 0, locals := 25 } : Room) 0 0
def D5_wrongBit (x0 : Int32) (x1 : Int32) (x2 : Int32) (M : MM) (Q : Int32 → MM → Prop) : Prop := ((x0 ≠ 0 → Q x0 M) ∧ (x0 = 0 → D5_in x1.toInt64 (0 : Int64) x2.toInt64 M (fun (r1 : Int32) (M2 : MM) => ((r1 ≠ 0 → Q x0 M2) ∧ (r1 = 0 → Q (-2 : Int32) M2)))))
set_option maxHeartbeats 4000000 in
set_option maxRecDepth 100000 in
theorem s5_wrongBit {G : GG} {x0 : Int32} {x1 : Int32} {x2 : Int32} {M : MM} {Q : Int32 → MM → Prop} (h : D5_wrongBit x0 x1 x2 M Q) : CM G yX5_wrongBit (WY yX5_wrongBit cX5_wrongBit 3 (some .int)) 1 25 [.int x0, .int x1, .int x2] M (qI Q) := by
  refine CM.of (cc := cX5_wrongBit) (nL := 3) (ret := (some .int)) (own := RX5) (by decide +kernel) rfl rfl (Nat.le_of_ble_eq_true rfl) ?_
  show A5_wrongBit G Q 0 [(0, .int x0), (1, .int x1), (2, .int x2)] [] M
  unfold D5_wrongBit at h
  refine a_iload_n dX5_wrongBit_0 0 rfl ?_
  refine a_if_ne (tgt := 20) dX5_wrongBit_1 (by decide) (fun c => ?_) (fun c => ?_)
  · have h := h.1 c
    refine a_iload_n dX5_wrongBit_20 0 rfl ?_
    exact a_iret dX5_wrongBit_21 ⟨_, rfl, h⟩
  · have h := h.2 c
    refine a_iload_n dX5_wrongBit_4 1 rfl ?_
    refine a_i2l dX5_wrongBit_5 ?_
    refine a_lconst (v := 0) dX5_wrongBit_6 (by decide) ?_
    refine a_iload_n dX5_wrongBit_7 2 rfl ?_
    refine a_i2l dX5_wrongBit_8 ?_
    refine a_callSi (n := 3) [.long _, .long _, .long _] dX5_wrongBit_9 (s5_in h) (gS tbc kM_RX5_80_X5_in kT_X5_in kN_RX5 kC_X5_in) rfl (by decide +kernel) ⟨Nat.le_of_ble_eq_true rfl, Nat.le_of_ble_eq_true rfl⟩ rfl rfl (Nat.le_of_ble_eq_true rfl) ⟨Nat.le_refl 0, Nat.le_refl 0⟩ (fun r M h => ?_)
    refine a_if_ne (tgt := 20) dX5_wrongBit_12 (by decide) (fun c => ?_) (fun c => ?_)
    · have h := h.1 c
      refine a_iload_n dX5_wrongBit_20 0 rfl ?_
      exact a_iret dX5_wrongBit_21 ⟨_, rfl, h⟩
    · have h := h.2 c
      refine a_bipush (v := -2) dX5_wrongBit_15 (by decide) ?_
      refine a_goto (tgt := 21) dX5_wrongBit_17 (by decide) ?_
      exact a_iret dX5_wrongBit_21 ⟨_, rfl, h⟩

/-! X5_keep -/
theorem dX5_keep_0 : decode cX5_keep 0 = .ok (.aload_n 0, 1) := by decide +kernel
theorem dX5_keep_1 : decode cX5_keep 1 = .ok (.iconst 0, 1) := by decide +kernel
theorem dX5_keep_2 : decode cX5_keep 2 = .ok (.putfield 73, 3) := by decide +kernel
theorem dX5_keep_5 : decode cX5_keep 5 = .ok (.iload_n 1, 1) := by decide +kernel
theorem dX5_keep_6 : decode cX5_keep 6 = .ok (.invokestatic 185, 3) := by decide +kernel
theorem dX5_keep_9 : decode cX5_keep 9 = .ok (.ifCond .eq 13, 3) := by decide +kernel
theorem dX5_keep_12 : decode cX5_keep 12 = .ok (.iload_n 2, 1) := by decide +kernel
theorem dX5_keep_13 : decode cX5_keep 13 = .ok (.iconst 1, 1) := by decide +kernel
theorem dX5_keep_14 : decode cX5_keep 14 = .ok (.bipush 24, 2) := by decide +kernel
theorem dX5_keep_16 : decode cX5_keep 16 = .ok (.invokestatic 244, 3) := by decide +kernel
theorem dX5_keep_19 : decode cX5_keep 19 = .ok (.goto 4, 3) := by decide +kernel
theorem dX5_keep_22 : decode cX5_keep 22 = .ok (.iconst (-1), 1) := by decide +kernel
theorem dX5_keep_23 : decode cX5_keep 23 = .ok (.iload_n 3, 1) := by decide +kernel
theorem dX5_keep_24 : decode cX5_keep 24 = .ok (.iconst 1, 1) := by decide +kernel
theorem dX5_keep_25 : decode cX5_keep 25 = .ok (.invokestatic 260, 3) := by decide +kernel
theorem dX5_keep_28 : decode cX5_keep 28 = .ok (.istore 4, 2) := by decide +kernel
theorem dX5_keep_30 : decode cX5_keep 30 = .ok (.iload 4, 2) := by decide +kernel
theorem dX5_keep_32 : decode cX5_keep 32 = .ok (.ifCond .ge 10, 3) := by decide +kernel
theorem dX5_keep_35 : decode cX5_keep 35 = .ok (.aload_n 0, 1) := by decide +kernel
theorem dX5_keep_36 : decode cX5_keep 36 = .ok (.iload 4, 2) := by decide +kernel
theorem dX5_keep_38 : decode cX5_keep 38 = .ok (.invokevirtual 149, 3) := by decide +kernel
theorem dX5_keep_41 : decode cX5_keep 41 = .ok (.ireturn, 1) := by decide +kernel
theorem dX5_keep_42 : decode cX5_keep 42 = .ok (.aload_n 0, 1) := by decide +kernel
theorem dX5_keep_43 : decode cX5_keep 43 = .ok (.invokevirtual 209, 3) := by decide +kernel
theorem dX5_keep_46 : decode cX5_keep 46 = .ok (.aload_n 0, 1) := by decide +kernel
theorem dX5_keep_47 : decode cX5_keep 47 = .ok (.iload_n 1, 1) := by decide +kernel
theorem dX5_keep_48 : decode cX5_keep 48 = .ok (.iload_n 2, 1) := by decide +kernel
theorem dX5_keep_49 : decode cX5_keep 49 = .ok (.invokevirtual 271, 3) := by decide +kernel
theorem dX5_keep_52 : decode cX5_keep 52 = .ok (.ifCond .eq 14, 3) := by decide +kernel
theorem dX5_keep_55 : decode cX5_keep 55 = .ok (.iload_n 3, 1) := by decide +kernel
theorem dX5_keep_56 : decode cX5_keep 56 = .ok (.ifCond .ne 7, 3) := by decide +kernel
theorem dX5_keep_59 : decode cX5_keep 59 = .ok (.iconst 0, 1) := by decide +kernel
theorem dX5_keep_60 : decode cX5_keep 60 = .ok (.goto 5, 3) := by decide +kernel
theorem dX5_keep_63 : decode cX5_keep 63 = .ok (.bipush (-9), 2) := by decide +kernel
theorem dX5_keep_65 : decode cX5_keep 65 = .ok (.ireturn, 1) := by decide +kernel
theorem dX5_keep_66 : decode cX5_keep 66 = .ok (.aload_n 0, 1) := by decide +kernel
theorem dX5_keep_67 : decode cX5_keep 67 = .ok (.iload_n 1, 1) := by decide +kernel
theorem dX5_keep_68 : decode cX5_keep 68 = .ok (.iload_n 2, 1) := by decide +kernel
theorem dX5_keep_69 : decode cX5_keep 69 = .ok (.invokevirtual 274, 3) := by decide +kernel
theorem dX5_keep_72 : decode cX5_keep 72 = .ok (.istore 5, 2) := by decide +kernel
theorem dX5_keep_74 : decode cX5_keep 74 = .ok (.iload 5, 2) := by decide +kernel
theorem dX5_keep_76 : decode cX5_keep 76 = .ok (.ifCond .lt 14, 3) := by decide +kernel
theorem dX5_keep_79 : decode cX5_keep 79 = .ok (.iload_n 3, 1) := by decide +kernel
theorem dX5_keep_80 : decode cX5_keep 80 = .ok (.ifCond .ne 7, 3) := by decide +kernel
theorem dX5_keep_83 : decode cX5_keep 83 = .ok (.iconst 1, 1) := by decide +kernel
theorem dX5_keep_84 : decode cX5_keep 84 = .ok (.goto 5, 3) := by decide +kernel
theorem dX5_keep_87 : decode cX5_keep 87 = .ok (.iload 5, 2) := by decide +kernel
theorem dX5_keep_89 : decode cX5_keep 89 = .ok (.ireturn, 1) := by decide +kernel
theorem dX5_keep_90 : decode cX5_keep 90 = .ok (.aload_n 0, 1) := by decide +kernel
theorem dX5_keep_91 : decode cX5_keep 91 = .ok (.iload_n 1, 1) := by decide +kernel
theorem dX5_keep_92 : decode cX5_keep 92 = .ok (.iload_n 2, 1) := by decide +kernel
theorem dX5_keep_93 : decode cX5_keep 93 = .ok (.invokevirtual 277, 3) := by decide +kernel
theorem dX5_keep_96 : decode cX5_keep 96 = .ok (.istore 5, 2) := by decide +kernel
theorem dX5_keep_98 : decode cX5_keep 98 = .ok (.iload_n 3, 1) := by decide +kernel
theorem dX5_keep_99 : decode cX5_keep 99 = .ok (.iconst 1, 1) := by decide +kernel
theorem dX5_keep_100 : decode cX5_keep 100 = .ok (.if_icmp .eq 8, 3) := by decide +kernel
theorem dX5_keep_103 : decode cX5_keep 103 = .ok (.iload 5, 2) := by decide +kernel
theorem dX5_keep_105 : decode cX5_keep 105 = .ok (.ifCond .ge 8, 3) := by decide +kernel
theorem dX5_keep_108 : decode cX5_keep 108 = .ok (.iload 5, 2) := by decide +kernel
theorem dX5_keep_110 : decode cX5_keep 110 = .ok (.goto 4, 3) := by decide +kernel
theorem dX5_keep_113 : decode cX5_keep 113 = .ok (.iconst 2, 1) := by decide +kernel
theorem dX5_keep_114 : decode cX5_keep 114 = .ok (.ireturn, 1) := by decide +kernel
abbrev A5_keep (G : GG) (Q : Int32 → MM → Prop) := AW G E0 (MZ G (qI Q)) (WY yX5_keep cX5_keep 6 (some .int)) RX5 cX5_keep 6 (some .int) ({ frames := 6, cells := 0, slots := 0, locals := 137 } : Room) 0 0
def D5_keep_c23 (Q : Int32 → MM → Prop) (x1 : Int32) (x2 : Int32) (x3 : Int32) (s0 : Int32) (M : MM) : Prop := D5_wrongBit s0 x3 (1 : Int32) M (fun (r6 : Int32) (M7 : MM) => ((0 ≤ r6 → D5_think M7 (fun (M9 : MM) => D5_staysDry x1 x2 M9 (fun (r10 : Int32) (M11 : MM) => ((r10 = 0 → D5_firstOfOne x1 x2 M11 (fun (r12 : Int32) (M13 : MM) => ((r12 < 0 → D5_firstOfTwo x1 x2 M13 (fun (r14 : Int32) (M15 : MM) => ((x3 = (1 : Int32) → Q r14 M15) ∧ (¬ x3 = (1 : Int32) → ((0 ≤ r14 → Q (2 : Int32) M15) ∧ (¬ 0 ≤ r14 → Q r14 M15)))))) ∧ (¬ r12 < 0 → ((x3 ≠ 0 → Q r12 M13) ∧ (x3 = 0 → Q (1 : Int32) M13)))))) ∧ (¬ r10 = 0 → ((x3 ≠ 0 → Q (-9 : Int32) M11) ∧ (x3 = 0 → Q (0 : Int32) M11))))))) ∧ (¬ 0 ≤ r6 → D5_refuse r6 M7 (fun (r16 : Int32) (M17 : MM) => Q r16 M17))))
def D5_keep (x1 : Int32) (x2 : Int32) (x3 : Int32) (M : MM) (Q : Int32 → MM → Prop) : Prop := (fun M1 : MM => D5_isCell x1 M1 (fun (r2 : Int32) (M3 : MM) => ((r2 = 0 → D5_keep_c23 Q x1 x2 x3 (-1 : Int32) M3) ∧ (¬ r2 = 0 → D5_wrongNumber x2 (1 : Int32) (24 : Int32) M3 (fun (r4 : Int32) (M5 : MM) => D5_keep_c23 Q x1 x2 x3 r4 M5))))) (up M 62 9 (0 : Int32))
set_option maxHeartbeats 4000000 in
set_option maxRecDepth 100000 in
theorem s5_keep_c23 {G : GG} {Q : Int32 → MM → Prop} : ∀ (x1 : Int32) (x2 : Int32) (x3 : Int32) (s0 : Int32) (M : MM), D5_keep_c23 Q x1 x2 x3 s0 M → A5_keep G Q 23 [(0, .ref (gA G 62)), (1, .int x1), (2, .int x2), (3, .int x3)] [.int s0] M := by
  intro x1 x2 x3 s0 M h
  unfold D5_keep_c23 at h
  refine a_iload_n dX5_keep_23 3 rfl ?_
  refine a_iconst (v := 1) dX5_keep_24 (by decide) ?_
  refine a_callSi (n := 3) [.int _, .int _, .int _] dX5_keep_25 (s5_wrongBit h) (gS tbc kM_RX5_260_X5_wrongBit kT_X5_wrongBit kN_RX5 kC_X5_wrongBit) rfl (by decide +kernel) ⟨Nat.le_of_ble_eq_true rfl, Nat.le_of_ble_eq_true rfl⟩ rfl rfl (Nat.le_of_ble_eq_true rfl) ⟨Nat.le_refl 0, Nat.le_refl 0⟩ (fun r M h => ?_)
  refine a_istore (i := 4) (L' := [(4, .int _), (0, .ref _), (1, .int _), (2, .int _), (3, .int _)]) dX5_keep_28 (by decide) rfl ?_
  refine a_iload dX5_keep_30 0 rfl ?_
  refine a_if_ge (tgt := 42) dX5_keep_32 (by decide) (fun c => ?_) (fun c => ?_)
  · have h := h.1 c
    refine a_aload_n dX5_keep_42 1 rfl ?_
    refine a_callVv (n := 0) [] (C := RX5) (ci := 3) (qc := (RX5, TX5, 40)) (fsF := fl3 G _) ob_62.1 (fun _ => en3 ob_62.2) rfl rfl dX5_keep_43 (s5_think h) (gV tbc kM_RX5_209_X5_think kI_X5_think kS_X5_think kN_RX5 kC_X5_think) rfl (by decide +kernel) ⟨Nat.le_of_ble_eq_true rfl, Nat.le_of_ble_eq_true rfl⟩ rfl rfl (Nat.le_of_ble_eq_true rfl) ⟨Nat.le_refl 0, Nat.le_refl 0⟩ (fun M h => ?_)
    refine a_aload_n dX5_keep_46 1 rfl ?_
    refine a_iload_n dX5_keep_47 2 rfl ?_
    refine a_iload_n dX5_keep_48 3 rfl ?_
    refine a_callVi (n := 2) [.int _, .int _] (C := RX5) (ci := 3) (qc := (RX5, TX5, 40)) (fsF := fl3 G _) ob_62.1 (fun _ => en3 ob_62.2) rfl rfl dX5_keep_49 (s5_staysDry h) (gV tbc kM_RX5_271_X5_staysDry kI_X5_staysDry kS_X5_staysDry kN_RX5 kC_X5_staysDry) rfl (by decide +kernel) ⟨Nat.le_of_ble_eq_true rfl, Nat.le_of_ble_eq_true rfl⟩ rfl rfl (Nat.le_of_ble_eq_true rfl) ⟨Nat.le_refl 0, Nat.le_refl 0⟩ (fun r M h => ?_)
    refine a_if_eq (tgt := 66) dX5_keep_52 (by decide) (fun c => ?_) (fun c => ?_)
    · have h := h.1 c
      refine a_aload_n dX5_keep_66 1 rfl ?_
      refine a_iload_n dX5_keep_67 2 rfl ?_
      refine a_iload_n dX5_keep_68 3 rfl ?_
      refine a_callVi (n := 2) [.int _, .int _] (C := RX5) (ci := 3) (qc := (RX5, TX5, 40)) (fsF := fl3 G _) ob_62.1 (fun _ => en3 ob_62.2) rfl rfl dX5_keep_69 (s5_firstOfOne h) (gV tbc kM_RX5_274_X5_firstOfOne kI_X5_firstOfOne kS_X5_firstOfOne kN_RX5 kC_X5_firstOfOne) rfl (by decide +kernel) ⟨Nat.le_of_ble_eq_true rfl, Nat.le_of_ble_eq_true rfl⟩ rfl rfl (Nat.le_of_ble_eq_true rfl) ⟨Nat.le_refl 0, Nat.le_refl 0⟩ (fun r M h => ?_)
      refine a_istore (i := 5) (L' := [(5, .int _), (4, .int _), (0, .ref _), (1, .int _), (2, .int _), (3, .int _)]) dX5_keep_72 (by decide) rfl ?_
      refine a_iload dX5_keep_74 0 rfl ?_
      refine a_if_lt (tgt := 90) dX5_keep_76 (by decide) (fun c => ?_) (fun c => ?_)
      · have h := h.1 c
        refine a_aload_n dX5_keep_90 2 rfl ?_
        refine a_iload_n dX5_keep_91 3 rfl ?_
        refine a_iload_n dX5_keep_92 4 rfl ?_
        refine a_callVi (n := 2) [.int _, .int _] (C := RX5) (ci := 3) (qc := (RX5, TX5, 40)) (fsF := fl3 G _) ob_62.1 (fun _ => en3 ob_62.2) rfl rfl dX5_keep_93 (s5_firstOfTwo h) (gV tbc kM_RX5_277_X5_firstOfTwo kI_X5_firstOfTwo kS_X5_firstOfTwo kN_RX5 kC_X5_firstOfTwo) rfl (by decide +kernel) ⟨Nat.le_of_ble_eq_true rfl, Nat.le_of_ble_eq_true rfl⟩ rfl rfl (Nat.le_of_ble_eq_true rfl) ⟨Nat.le_refl 0, Nat.le_refl 0⟩ (fun r M h => ?_)
        refine a_istore (i := 5) (L' := [(5, .int _), (4, .int _), (0, .ref _), (1, .int _), (2, .int _), (3, .int _)]) dX5_keep_96 (by decide) rfl ?_
        refine a_iload_n dX5_keep_98 5 rfl ?_
        refine a_iconst (v := 1) dX5_keep_99 (by decide) ?_
        refine a_icmp_eq (tgt := 108) dX5_keep_100 (by decide) (fun c => ?_) (fun c => ?_)
        · have h := h.1 c
          refine a_iload dX5_keep_108 0 rfl ?_
          refine a_goto (tgt := 114) dX5_keep_110 (by decide) ?_
          exact a_iret dX5_keep_114 ⟨_, rfl, h⟩
        · have h := h.2 c
          refine a_iload dX5_keep_103 0 rfl ?_
          refine a_if_ge (tgt := 113) dX5_keep_105 (by decide) (fun c => ?_) (fun c => ?_)
          · have h := h.1 c
            refine a_iconst (v := 2) dX5_keep_113 (by decide) ?_
            exact a_iret dX5_keep_114 ⟨_, rfl, h⟩
          · have h := h.2 c
            refine a_iload dX5_keep_108 0 rfl ?_
            refine a_goto (tgt := 114) dX5_keep_110 (by decide) ?_
            exact a_iret dX5_keep_114 ⟨_, rfl, h⟩
      · have h := h.2 c
        refine a_iload_n dX5_keep_79 5 rfl ?_
        refine a_if_ne (tgt := 87) dX5_keep_80 (by decide) (fun c => ?_) (fun c => ?_)
        · have h := h.1 c
          refine a_iload dX5_keep_87 0 rfl ?_
          exact a_iret dX5_keep_89 ⟨_, rfl, h⟩
        · have h := h.2 c
          refine a_iconst (v := 1) dX5_keep_83 (by decide) ?_
          refine a_goto (tgt := 89) dX5_keep_84 (by decide) ?_
          exact a_iret dX5_keep_89 ⟨_, rfl, h⟩
    · have h := h.2 c
      refine a_iload_n dX5_keep_55 4 rfl ?_
      refine a_if_ne (tgt := 63) dX5_keep_56 (by decide) (fun c => ?_) (fun c => ?_)
      · have h := h.1 c
        refine a_bipush (v := -9) dX5_keep_63 (by decide) ?_
        exact a_iret dX5_keep_65 ⟨_, rfl, h⟩
      · have h := h.2 c
        refine a_iconst (v := 0) dX5_keep_59 (by decide) ?_
        refine a_goto (tgt := 65) dX5_keep_60 (by decide) ?_
        exact a_iret dX5_keep_65 ⟨_, rfl, h⟩
  · have h := h.2 c
    refine a_aload_n dX5_keep_35 1 rfl ?_
    refine a_iload dX5_keep_36 0 rfl ?_
    refine a_callVi (n := 1) [.int _] (C := RX5) (ci := 3) (qc := (RX5, TX5, 40)) (fsF := fl3 G _) ob_62.1 (fun _ => en3 ob_62.2) rfl rfl dX5_keep_38 (s5_refuse h) (gV tbc kM_RX5_149_X5_refuse kI_X5_refuse kS_X5_refuse kN_RX5 kC_X5_refuse) rfl (by decide +kernel) ⟨Nat.le_of_ble_eq_true rfl, Nat.le_of_ble_eq_true rfl⟩ rfl rfl (Nat.le_of_ble_eq_true rfl) ⟨Nat.le_refl 0, Nat.le_refl 0⟩ (fun r M h => ?_)
    exact a_iret dX5_keep_41 ⟨_, rfl, h⟩
set_option maxHeartbeats 4000000 in
set_option maxRecDepth 100000 in
theorem s5_keep {G : GG} {x1 : Int32} {x2 : Int32} {x3 : Int32} {M : MM} {Q : Int32 → MM → Prop} (h : D5_keep x1 x2 x3 M Q) : CM G yX5_keep (WY yX5_keep cX5_keep 6 (some .int)) 6 137 [.ref (gA G 62), .int x1, .int x2, .int x3] M (qI Q) := by
  refine CM.of (cc := cX5_keep) (nL := 6) (ret := (some .int)) (own := RX5) (by decide +kernel) rfl rfl (Nat.le_of_ble_eq_true rfl) ?_
  show A5_keep G Q 0 [(0, .ref (gA G 62)), (1, .int x1), (2, .int x2), (3, .int x3)] [] M
  unfold D5_keep at h
  refine a_aload_n dX5_keep_0 0 rfl ?_
  refine a_iconst (v := 0) dX5_keep_1 (by decide) ?_
  refine a_put3 dX5_keep_2 9 (by decide) (tbc _ kF_RX5_73) (fun w h => tbc _ (uW3 w h)) rfl rfl rfl rfl ob_62 fs3_9 ?_
  refine a_iload_n dX5_keep_5 1 rfl ?_
  refine a_callSi (n := 1) [.int _] dX5_keep_6 (s5_isCell h) (gS tbc kM_RX5_185_X5_isCell kT_X5_isCell kN_RX5 kC_X5_isCell) rfl (by decide +kernel) ⟨Nat.le_of_ble_eq_true rfl, Nat.le_of_ble_eq_true rfl⟩ rfl rfl (Nat.le_of_ble_eq_true rfl) ⟨Nat.le_refl 0, Nat.le_refl 0⟩ (fun r M h => ?_)
  refine a_if_eq (tgt := 22) dX5_keep_9 (by decide) (fun c => ?_) (fun c => ?_)
  · have h := h.1 c
    refine a_iconst (v := -1) dX5_keep_22 (by decide) ?_
    refine a_sub [0, 1, 2, 3] rfl ?_
    exact s5_keep_c23 _ _ _ _ _ h
  · have h := h.2 c
    refine a_iload_n dX5_keep_12 2 rfl ?_
    refine a_iconst (v := 1) dX5_keep_13 (by decide) ?_
    refine a_bipush (v := 24) dX5_keep_14 (by decide) ?_
    refine a_callSi (n := 3) [.int _, .int _, .int _] dX5_keep_16 (s5_wrongNumber h) (gS tbc kM_RX5_244_X5_wrongNumber kT_X5_wrongNumber kN_RX5 kC_X5_wrongNumber) rfl (by decide +kernel) ⟨Nat.le_of_ble_eq_true rfl, Nat.le_of_ble_eq_true rfl⟩ rfl rfl (Nat.le_of_ble_eq_true rfl) ⟨Nat.le_refl 0, Nat.le_refl 0⟩ (fun r M h => ?_)
    refine a_goto (tgt := 23) dX5_keep_19 (by decide) ?_
    refine a_sub [0, 1, 2, 3] rfl ?_
    exact s5_keep_c23 _ _ _ _ _ h

/-! X5_stepsOf -/
theorem dX5_stepsOf_0 : decode cX5_stepsOf 0 = .ok (.iload_n 0, 1) := by decide +kernel
theorem dX5_stepsOf_1 : decode cX5_stepsOf 1 = .ok (.iconst 5, 1) := by decide +kernel
theorem dX5_stepsOf_2 : decode cX5_stepsOf 2 = .ok (.idiv, 1) := by decide +kernel
theorem dX5_stepsOf_3 : decode cX5_stepsOf 3 = .ok (.iload_n 1, 1) := by decide +kernel
theorem dX5_stepsOf_4 : decode cX5_stepsOf 4 = .ok (.iconst 5, 1) := by decide +kernel
theorem dX5_stepsOf_5 : decode cX5_stepsOf 5 = .ok (.idiv, 1) := by decide +kernel
theorem dX5_stepsOf_6 : decode cX5_stepsOf 6 = .ok (.if_icmp .le 13, 3) := by decide +kernel
theorem dX5_stepsOf_9 : decode cX5_stepsOf 9 = .ok (.iload_n 0, 1) := by decide +kernel
theorem dX5_stepsOf_10 : decode cX5_stepsOf 10 = .ok (.iconst 5, 1) := by decide +kernel
theorem dX5_stepsOf_11 : decode cX5_stepsOf 11 = .ok (.idiv, 1) := by decide +kernel
theorem dX5_stepsOf_12 : decode cX5_stepsOf 12 = .ok (.iload_n 1, 1) := by decide +kernel
theorem dX5_stepsOf_13 : decode cX5_stepsOf 13 = .ok (.iconst 5, 1) := by decide +kernel
theorem dX5_stepsOf_14 : decode cX5_stepsOf 14 = .ok (.idiv, 1) := by decide +kernel
theorem dX5_stepsOf_15 : decode cX5_stepsOf 15 = .ok (.isub, 1) := by decide +kernel
theorem dX5_stepsOf_16 : decode cX5_stepsOf 16 = .ok (.goto 10, 3) := by decide +kernel
theorem dX5_stepsOf_19 : decode cX5_stepsOf 19 = .ok (.iload_n 1, 1) := by decide +kernel
theorem dX5_stepsOf_20 : decode cX5_stepsOf 20 = .ok (.iconst 5, 1) := by decide +kernel
theorem dX5_stepsOf_21 : decode cX5_stepsOf 21 = .ok (.idiv, 1) := by decide +kernel
theorem dX5_stepsOf_22 : decode cX5_stepsOf 22 = .ok (.iload_n 0, 1) := by decide +kernel
theorem dX5_stepsOf_23 : decode cX5_stepsOf 23 = .ok (.iconst 5, 1) := by decide +kernel
theorem dX5_stepsOf_24 : decode cX5_stepsOf 24 = .ok (.idiv, 1) := by decide +kernel
theorem dX5_stepsOf_25 : decode cX5_stepsOf 25 = .ok (.isub, 1) := by decide +kernel
theorem dX5_stepsOf_26 : decode cX5_stepsOf 26 = .ok (.istore_n 2, 1) := by decide +kernel
theorem dX5_stepsOf_27 : decode cX5_stepsOf 27 = .ok (.iload_n 0, 1) := by decide +kernel
theorem dX5_stepsOf_28 : decode cX5_stepsOf 28 = .ok (.iconst 5, 1) := by decide +kernel
theorem dX5_stepsOf_29 : decode cX5_stepsOf 29 = .ok (.irem, 1) := by decide +kernel
theorem dX5_stepsOf_30 : decode cX5_stepsOf 30 = .ok (.iload_n 1, 1) := by decide +kernel
theorem dX5_stepsOf_31 : decode cX5_stepsOf 31 = .ok (.iconst 5, 1) := by decide +kernel
theorem dX5_stepsOf_32 : decode cX5_stepsOf 32 = .ok (.irem, 1) := by decide +kernel
theorem dX5_stepsOf_33 : decode cX5_stepsOf 33 = .ok (.if_icmp .le 13, 3) := by decide +kernel
theorem dX5_stepsOf_36 : decode cX5_stepsOf 36 = .ok (.iload_n 0, 1) := by decide +kernel
theorem dX5_stepsOf_37 : decode cX5_stepsOf 37 = .ok (.iconst 5, 1) := by decide +kernel
theorem dX5_stepsOf_38 : decode cX5_stepsOf 38 = .ok (.irem, 1) := by decide +kernel
theorem dX5_stepsOf_39 : decode cX5_stepsOf 39 = .ok (.iload_n 1, 1) := by decide +kernel
theorem dX5_stepsOf_40 : decode cX5_stepsOf 40 = .ok (.iconst 5, 1) := by decide +kernel
theorem dX5_stepsOf_41 : decode cX5_stepsOf 41 = .ok (.irem, 1) := by decide +kernel
theorem dX5_stepsOf_42 : decode cX5_stepsOf 42 = .ok (.isub, 1) := by decide +kernel
theorem dX5_stepsOf_43 : decode cX5_stepsOf 43 = .ok (.goto 10, 3) := by decide +kernel
theorem dX5_stepsOf_46 : decode cX5_stepsOf 46 = .ok (.iload_n 1, 1) := by decide +kernel
theorem dX5_stepsOf_47 : decode cX5_stepsOf 47 = .ok (.iconst 5, 1) := by decide +kernel
theorem dX5_stepsOf_48 : decode cX5_stepsOf 48 = .ok (.irem, 1) := by decide +kernel
theorem dX5_stepsOf_49 : decode cX5_stepsOf 49 = .ok (.iload_n 0, 1) := by decide +kernel
theorem dX5_stepsOf_50 : decode cX5_stepsOf 50 = .ok (.iconst 5, 1) := by decide +kernel
theorem dX5_stepsOf_51 : decode cX5_stepsOf 51 = .ok (.irem, 1) := by decide +kernel
theorem dX5_stepsOf_52 : decode cX5_stepsOf 52 = .ok (.isub, 1) := by decide +kernel
theorem dX5_stepsOf_53 : decode cX5_stepsOf 53 = .ok (.istore_n 3, 1) := by decide +kernel
theorem dX5_stepsOf_54 : decode cX5_stepsOf 54 = .ok (.iload_n 2, 1) := by decide +kernel
theorem dX5_stepsOf_55 : decode cX5_stepsOf 55 = .ok (.iload_n 3, 1) := by decide +kernel
theorem dX5_stepsOf_56 : decode cX5_stepsOf 56 = .ok (.iadd, 1) := by decide +kernel
theorem dX5_stepsOf_57 : decode cX5_stepsOf 57 = .ok (.ireturn, 1) := by decide +kernel
abbrev A5_stepsOf (G : GG) (Q : Int32 → MM → Prop) := AW G E0 (MZ G (qI Q)) (WY yX5_stepsOf cX5_stepsOf 4 (some .int)) RX5 cX5_stepsOf 4 (some .int) ({ frames := 0, cells := 0, slots := 0, locals := 0 } : Room) 0 0
def D5_stepsOf_c26 (Q : Int32 → MM → Prop) (x0 : Int32) (x1 : Int32) (s0 : Int32) (M : MM) : Prop := (((x0 - x0 / (5 : Int32) * (5 : Int32)) ≤ (x1 - x1 / (5 : Int32) * (5 : Int32)) → (fun v1 : Int32 => Q (s0 + v1) M) ((x1 - x1 / (5 : Int32) * (5 : Int32)) - (x0 - x0 / (5 : Int32) * (5 : Int32)))) ∧ (¬ (x0 - x0 / (5 : Int32) * (5 : Int32)) ≤ (x1 - x1 / (5 : Int32) * (5 : Int32)) → (fun v2 : Int32 => Q (s0 + v2) M) ((x0 - x0 / (5 : Int32) * (5 : Int32)) - (x1 - x1 / (5 : Int32) * (5 : Int32)))))
def D5_stepsOf (x0 : Int32) (x1 : Int32) (M : MM) (Q : Int32 → MM → Prop) : Prop := (((x0 / (5 : Int32)) ≤ (x1 / (5 : Int32)) → D5_stepsOf_c26 Q x0 x1 ((x1 / (5 : Int32)) - (x0 / (5 : Int32))) M) ∧ (¬ (x0 / (5 : Int32)) ≤ (x1 / (5 : Int32)) → D5_stepsOf_c26 Q x0 x1 ((x0 / (5 : Int32)) - (x1 / (5 : Int32))) M))
set_option maxHeartbeats 4000000 in
set_option maxRecDepth 100000 in
theorem s5_stepsOf_c26 {G : GG} {Q : Int32 → MM → Prop} : ∀ (x0 : Int32) (x1 : Int32) (s0 : Int32) (M : MM), D5_stepsOf_c26 Q x0 x1 s0 M → A5_stepsOf G Q 26 [(0, .int x0), (1, .int x1)] [.int s0] M := by
  intro x0 x1 s0 M h
  unfold D5_stepsOf_c26 at h
  refine a_istore_n (i := 2) (L' := [(2, .int _), (0, .int _), (1, .int _)]) dX5_stepsOf_26 rfl (by decide) rfl ?_
  refine a_iload_n dX5_stepsOf_27 1 rfl ?_
  refine a_iconst (v := 5) dX5_stepsOf_28 (by decide) ?_
  refine a_irem dX5_stepsOf_29 (by decide) ?_
  refine a_iload_n dX5_stepsOf_30 2 rfl ?_
  refine a_iconst (v := 5) dX5_stepsOf_31 (by decide) ?_
  refine a_irem dX5_stepsOf_32 (by decide) ?_
  refine a_icmp_le (tgt := 46) dX5_stepsOf_33 (by decide) (fun c => ?_) (fun c => ?_)
  · have h := h.1 c
    refine a_iload_n dX5_stepsOf_46 2 rfl ?_
    refine a_iconst (v := 5) dX5_stepsOf_47 (by decide) ?_
    refine a_irem dX5_stepsOf_48 (by decide) ?_
    refine a_iload_n dX5_stepsOf_49 1 rfl ?_
    refine a_iconst (v := 5) dX5_stepsOf_50 (by decide) ?_
    refine a_irem dX5_stepsOf_51 (by decide) ?_
    refine a_isub dX5_stepsOf_52 ?_
    refine a_istore_n (i := 3) (L' := [(3, .int _), (2, .int _), (0, .int _), (1, .int _)]) dX5_stepsOf_53 rfl (by decide) rfl ?_
    refine a_iload_n dX5_stepsOf_54 1 rfl ?_
    refine a_iload_n dX5_stepsOf_55 0 rfl ?_
    refine a_iadd dX5_stepsOf_56 ?_
    exact a_iret dX5_stepsOf_57 ⟨_, rfl, h⟩
  · have h := h.2 c
    refine a_iload_n dX5_stepsOf_36 1 rfl ?_
    refine a_iconst (v := 5) dX5_stepsOf_37 (by decide) ?_
    refine a_irem dX5_stepsOf_38 (by decide) ?_
    refine a_iload_n dX5_stepsOf_39 2 rfl ?_
    refine a_iconst (v := 5) dX5_stepsOf_40 (by decide) ?_
    refine a_irem dX5_stepsOf_41 (by decide) ?_
    refine a_isub dX5_stepsOf_42 ?_
    refine a_goto (tgt := 53) dX5_stepsOf_43 (by decide) ?_
    refine a_istore_n (i := 3) (L' := [(3, .int _), (2, .int _), (0, .int _), (1, .int _)]) dX5_stepsOf_53 rfl (by decide) rfl ?_
    refine a_iload_n dX5_stepsOf_54 1 rfl ?_
    refine a_iload_n dX5_stepsOf_55 0 rfl ?_
    refine a_iadd dX5_stepsOf_56 ?_
    exact a_iret dX5_stepsOf_57 ⟨_, rfl, h⟩
set_option maxHeartbeats 4000000 in
set_option maxRecDepth 100000 in
theorem s5_stepsOf {G : GG} {x0 : Int32} {x1 : Int32} {M : MM} {Q : Int32 → MM → Prop} (h : D5_stepsOf x0 x1 M Q) : CM G yX5_stepsOf (WY yX5_stepsOf cX5_stepsOf 4 (some .int)) 0 0 [.int x0, .int x1] M (qI Q) := by
  refine CM.of (cc := cX5_stepsOf) (nL := 4) (ret := (some .int)) (own := RX5) (by decide +kernel) rfl rfl (Nat.le_of_ble_eq_true rfl) ?_
  show A5_stepsOf G Q 0 [(0, .int x0), (1, .int x1)] [] M
  unfold D5_stepsOf at h
  refine a_iload_n dX5_stepsOf_0 0 rfl ?_
  refine a_iconst (v := 5) dX5_stepsOf_1 (by decide) ?_
  refine a_idiv dX5_stepsOf_2 (by decide) ?_
  refine a_iload_n dX5_stepsOf_3 1 rfl ?_
  refine a_iconst (v := 5) dX5_stepsOf_4 (by decide) ?_
  refine a_idiv dX5_stepsOf_5 (by decide) ?_
  refine a_icmp_le (tgt := 19) dX5_stepsOf_6 (by decide) (fun c => ?_) (fun c => ?_)
  · have h := h.1 c
    refine a_iload_n dX5_stepsOf_19 1 rfl ?_
    refine a_iconst (v := 5) dX5_stepsOf_20 (by decide) ?_
    refine a_idiv dX5_stepsOf_21 (by decide) ?_
    refine a_iload_n dX5_stepsOf_22 0 rfl ?_
    refine a_iconst (v := 5) dX5_stepsOf_23 (by decide) ?_
    refine a_idiv dX5_stepsOf_24 (by decide) ?_
    refine a_isub dX5_stepsOf_25 ?_
    refine a_sub [0, 1] rfl ?_
    exact s5_stepsOf_c26 _ _ _ _ h
  · have h := h.2 c
    refine a_iload_n dX5_stepsOf_9 0 rfl ?_
    refine a_iconst (v := 5) dX5_stepsOf_10 (by decide) ?_
    refine a_idiv dX5_stepsOf_11 (by decide) ?_
    refine a_iload_n dX5_stepsOf_12 1 rfl ?_
    refine a_iconst (v := 5) dX5_stepsOf_13 (by decide) ?_
    refine a_idiv dX5_stepsOf_14 (by decide) ?_
    refine a_isub dX5_stepsOf_15 ?_
    refine a_goto (tgt := 26) dX5_stepsOf_16 (by decide) ?_
    refine a_sub [0, 1] rfl ?_
    exact s5_stepsOf_c26 _ _ _ _ h

/-! X5_layRound -/
theorem dX5_layRound_0 : decode cX5_layRound 0 = .ok (.iconst 0, 1) := by decide +kernel
theorem dX5_layRound_1 : decode cX5_layRound 1 = .ok (.istore_n 1, 1) := by decide +kernel
theorem dX5_layRound_2 : decode cX5_layRound 2 = .ok (.iload_n 1, 1) := by decide +kernel
theorem dX5_layRound_3 : decode cX5_layRound 3 = .ok (.sipush 256, 3) := by decide +kernel
theorem dX5_layRound_6 : decode cX5_layRound 6 = .ok (.if_icmp .ge 124, 3) := by decide +kernel
theorem dX5_layRound_9 : decode cX5_layRound 9 = .ok (.iconst 0, 1) := by decide +kernel
theorem dX5_layRound_10 : decode cX5_layRound 10 = .ok (.istore_n 2, 1) := by decide +kernel
theorem dX5_layRound_11 : decode cX5_layRound 11 = .ok (.iload_n 2, 1) := by decide +kernel
theorem dX5_layRound_12 : decode cX5_layRound 12 = .ok (.bipush 9, 2) := by decide +kernel
theorem dX5_layRound_14 : decode cX5_layRound 14 = .ok (.if_icmp .ge 110, 3) := by decide +kernel
theorem dX5_layRound_17 : decode cX5_layRound 17 = .ok (.iconst (-1), 1) := by decide +kernel
theorem dX5_layRound_18 : decode cX5_layRound 18 = .ok (.istore_n 3, 1) := by decide +kernel
theorem dX5_layRound_19 : decode cX5_layRound 19 = .ok (.iconst 0, 1) := by decide +kernel
theorem dX5_layRound_20 : decode cX5_layRound 20 = .ok (.istore 4, 2) := by decide +kernel
theorem dX5_layRound_22 : decode cX5_layRound 22 = .ok (.iload 4, 2) := by decide +kernel
theorem dX5_layRound_24 : decode cX5_layRound 24 = .ok (.aload_n 0, 1) := by decide +kernel
theorem dX5_layRound_25 : decode cX5_layRound 25 = .ok (.getfield 77, 3) := by decide +kernel
theorem dX5_layRound_28 : decode cX5_layRound 28 = .ok (.if_icmp .ge 70, 3) := by decide +kernel
theorem dX5_layRound_31 : decode cX5_layRound 31 = .ok (.iload_n 1, 1) := by decide +kernel
theorem dX5_layRound_32 : decode cX5_layRound 32 = .ok (.iload 4, 2) := by decide +kernel
theorem dX5_layRound_34 : decode cX5_layRound 34 = .ok (.invokestatic 93, 3) := by decide +kernel
theorem dX5_layRound_37 : decode cX5_layRound 37 = .ok (.ifCond .eq 55, 3) := by decide +kernel
theorem dX5_layRound_40 : decode cX5_layRound 40 = .ok (.aload_n 0, 1) := by decide +kernel
theorem dX5_layRound_41 : decode cX5_layRound 41 = .ok (.iload_n 2, 1) := by decide +kernel
theorem dX5_layRound_42 : decode cX5_layRound 42 = .ok (.invokevirtual 280, 3) := by decide +kernel
theorem dX5_layRound_45 : decode cX5_layRound 45 = .ok (.aload_n 0, 1) := by decide +kernel
theorem dX5_layRound_46 : decode cX5_layRound 46 = .ok (.getfield 16, 3) := by decide +kernel
theorem dX5_layRound_49 : decode cX5_layRound 49 = .ok (.iload 4, 2) := by decide +kernel
theorem dX5_layRound_51 : decode cX5_layRound 51 = .ok (.iaload, 1) := by decide +kernel
theorem dX5_layRound_52 : decode cX5_layRound 52 = .ok (.invokestatic 283, 3) := by decide +kernel
theorem dX5_layRound_55 : decode cX5_layRound 55 = .ok (.aload_n 0, 1) := by decide +kernel
theorem dX5_layRound_56 : decode cX5_layRound 56 = .ok (.getfield 61, 3) := by decide +kernel
theorem dX5_layRound_59 : decode cX5_layRound 59 = .ok (.bipush 9, 2) := by decide +kernel
theorem dX5_layRound_61 : decode cX5_layRound 61 = .ok (.iload_n 1, 1) := by decide +kernel
theorem dX5_layRound_62 : decode cX5_layRound 62 = .ok (.iconst 1, 1) := by decide +kernel
theorem dX5_layRound_63 : decode cX5_layRound 63 = .ok (.iload 4, 2) := by decide +kernel
theorem dX5_layRound_65 : decode cX5_layRound 65 = .ok (.ishl, 1) := by decide +kernel
theorem dX5_layRound_66 : decode cX5_layRound 66 = .ok (.isub, 1) := by decide +kernel
theorem dX5_layRound_67 : decode cX5_layRound 67 = .ok (.imul, 1) := by decide +kernel
theorem dX5_layRound_68 : decode cX5_layRound 68 = .ok (.iload 4, 2) := by decide +kernel
theorem dX5_layRound_70 : decode cX5_layRound 70 = .ok (.iadd, 1) := by decide +kernel
theorem dX5_layRound_71 : decode cX5_layRound 71 = .ok (.iaload, 1) := by decide +kernel
theorem dX5_layRound_72 : decode cX5_layRound 72 = .ok (.iadd, 1) := by decide +kernel
theorem dX5_layRound_73 : decode cX5_layRound 73 = .ok (.istore 5, 2) := by decide +kernel
theorem dX5_layRound_75 : decode cX5_layRound 75 = .ok (.iload_n 3, 1) := by decide +kernel
theorem dX5_layRound_76 : decode cX5_layRound 76 = .ok (.ifCond .lt 9, 3) := by decide +kernel
theorem dX5_layRound_79 : decode cX5_layRound 79 = .ok (.iload 5, 2) := by decide +kernel
theorem dX5_layRound_81 : decode cX5_layRound 81 = .ok (.iload_n 3, 1) := by decide +kernel
theorem dX5_layRound_82 : decode cX5_layRound 82 = .ok (.if_icmp .ge 8, 3) := by decide +kernel
theorem dX5_layRound_85 : decode cX5_layRound 85 = .ok (.iload 5, 2) := by decide +kernel
theorem dX5_layRound_87 : decode cX5_layRound 87 = .ok (.goto 4, 3) := by decide +kernel
theorem dX5_layRound_90 : decode cX5_layRound 90 = .ok (.iload_n 3, 1) := by decide +kernel
theorem dX5_layRound_91 : decode cX5_layRound 91 = .ok (.istore_n 3, 1) := by decide +kernel
theorem dX5_layRound_92 : decode cX5_layRound 92 = .ok (.iinc 4 1, 3) := by decide +kernel
theorem dX5_layRound_95 : decode cX5_layRound 95 = .ok (.goto (-73), 3) := by decide +kernel
theorem dX5_layRound_98 : decode cX5_layRound 98 = .ok (.aload_n 0, 1) := by decide +kernel
theorem dX5_layRound_99 : decode cX5_layRound 99 = .ok (.getfield 61, 3) := by decide +kernel
theorem dX5_layRound_102 : decode cX5_layRound 102 = .ok (.bipush 9, 2) := by decide +kernel
theorem dX5_layRound_104 : decode cX5_layRound 104 = .ok (.iload_n 1, 1) := by decide +kernel
theorem dX5_layRound_105 : decode cX5_layRound 105 = .ok (.imul, 1) := by decide +kernel
theorem dX5_layRound_106 : decode cX5_layRound 106 = .ok (.iload_n 2, 1) := by decide +kernel
theorem dX5_layRound_107 : decode cX5_layRound 107 = .ok (.iadd, 1) := by decide +kernel
theorem dX5_layRound_108 : decode cX5_layRound 108 = .ok (.iload_n 3, 1) := by decide +kernel
theorem dX5_layRound_109 : decode cX5_layRound 109 = .ok (.ifCond .ge 7, 3) := by decide +kernel
theorem dX5_layRound_112 : decode cX5_layRound 112 = .ok (.iconst 0, 1) := by decide +kernel
theorem dX5_layRound_113 : decode cX5_layRound 113 = .ok (.goto 4, 3) := by decide +kernel
theorem dX5_layRound_116 : decode cX5_layRound 116 = .ok (.iload_n 3, 1) := by decide +kernel
theorem dX5_layRound_117 : decode cX5_layRound 117 = .ok (.iastore, 1) := by decide +kernel
theorem dX5_layRound_118 : decode cX5_layRound 118 = .ok (.iinc 2 1, 3) := by decide +kernel
theorem dX5_layRound_121 : decode cX5_layRound 121 = .ok (.goto (-110), 3) := by decide +kernel
theorem dX5_layRound_124 : decode cX5_layRound 124 = .ok (.iinc 1 1, 3) := by decide +kernel
theorem dX5_layRound_127 : decode cX5_layRound 127 = .ok (.goto (-125), 3) := by decide +kernel
theorem dX5_layRound_130 : decode cX5_layRound 130 = .ok (.return_, 1) := by decide +kernel
abbrev A5_layRound (G : GG) (Q : MM → Prop) := AW G E0 (MZ G (qV Q)) (WY yX5_layRound cX5_layRound 6 none) RX5 cX5_layRound 6 none ({ frames := 1, cells := 0, slots := 0, locals := 23 } : Room) 0 0
def D5_layRound_c92 (K22 : Int32 → Int32 → Int32 → Int32 → MM → Prop) (K11 : Int32 → Int32 → MM → Prop) (K2 : Int32 → MM → Prop) (Q : MM → Prop) (x1 : Int32) (x2 : Int32) (x3 : Int32) (x4 : Int32) (M : MM) : Prop := (fun v9 : Int32 => K22 x1 x2 x3 v9 M) (x4 + (1 : Int32))
def D5_layRound_c91 (K22 : Int32 → Int32 → Int32 → Int32 → MM → Prop) (K11 : Int32 → Int32 → MM → Prop) (K2 : Int32 → MM → Prop) (Q : MM → Prop) (x1 : Int32) (x2 : Int32) (x4 : Int32) (s0 : Int32) (M : MM) : Prop := D5_layRound_c92 K22 K11 K2 Q x1 x2 s0 x4 M
def D5_layRound_c85 (K22 : Int32 → Int32 → Int32 → Int32 → MM → Prop) (K11 : Int32 → Int32 → MM → Prop) (K2 : Int32 → MM → Prop) (Q : MM → Prop) (x1 : Int32) (x2 : Int32) (x4 : Int32) (x5 : Int32) (M : MM) : Prop := D5_layRound_c91 K22 K11 K2 Q x1 x2 x4 x5 M
def D5_layRound_c117 (K11 : Int32 → Int32 → MM → Prop) (K2 : Int32 → MM → Prop) (Q : MM → Prop) (x1 : Int32) (x2 : Int32) (s0 : Int32) (s1 : Int32) (s2 : Nat) (M : MM) : Prop := ib s2 s1 ∧ (fun M10 : MM => (fun v11 : Int32 => K11 x1 v11 M10) (x2 + (1 : Int32))) (up M s2 (ix s1) s0)
def D5_layRound_c98 (K11 : Int32 → Int32 → MM → Prop) (K2 : Int32 → MM → Prop) (Q : MM → Prop) (x1 : Int32) (x2 : Int32) (x3 : Int32) (M : MM) : Prop := ((0 ≤ x3 → D5_layRound_c117 K11 K2 Q x1 x2 x3 (((9 : Int32) * x1) + x2) 80 M) ∧ (¬ 0 ≤ x3 → D5_layRound_c117 K11 K2 Q x1 x2 (0 : Int32) (((9 : Int32) * x1) + x2) 80 M))
def D5_layRound_c22 (K11 : Int32 → Int32 → MM → Prop) (K2 : Int32 → MM → Prop) (Q : MM → Prop) : Nat → Int32 → Int32 → Int32 → Int32 → MM → Prop
  | 0, _, _, _, _, _ => False
  | n + 1, x1, x2, x3, x4, M => (((M 62 0) ≤ x4 → D5_layRound_c98 K11 K2 Q x1 x2 x3 M) ∧ (¬ (M 62 0) ≤ x4 → D5_hasBit x1 x4 M (fun (r2 : Int32) (M3 : MM) => ((r2 = 0 → D5_layRound_c92 (D5_layRound_c22 K11 K2 Q n) K11 K2 Q x1 x2 x3 x4 M3) ∧ (¬ r2 = 0 → D5_cellOf x2 M3 (fun (r4 : Int32) (M5 : MM) => ib 65 x4 ∧ D5_stepsOf r4 (M5 65 (ix x4)) M5 (fun (r6 : Int32) (M7 : MM) => ib 80 (((9 : Int32) * (x1 - ((1 : Int32) <<< (x4 &&& 31)))) + x4) ∧ (fun v8 : Int32 => ((x3 < 0 → D5_layRound_c85 (D5_layRound_c22 K11 K2 Q n) K11 K2 Q x1 x2 x4 v8 M7) ∧ (¬ x3 < 0 → ((x3 ≤ v8 → D5_layRound_c91 (D5_layRound_c22 K11 K2 Q n) K11 K2 Q x1 x2 x4 x3 M7) ∧ (¬ x3 ≤ v8 → D5_layRound_c85 (D5_layRound_c22 K11 K2 Q n) K11 K2 Q x1 x2 x4 v8 M7))))) (r6 + (M7 80 (ix (((9 : Int32) * (x1 - ((1 : Int32) <<< (x4 &&& 31)))) + x4)))))))))))
def D5_layRound_c124 (K2 : Int32 → MM → Prop) (Q : MM → Prop) (x1 : Int32) (M : MM) : Prop := (fun v1 : Int32 => K2 v1 M) (x1 + (1 : Int32))
def D5_layRound_c11 (K2 : Int32 → MM → Prop) (Q : MM → Prop) : Nat → Int32 → Int32 → MM → Prop
  | 0, _, _, _ => False
  | n + 1, x1, x2, M => (((9 : Int32) ≤ x2 → D5_layRound_c124 K2 Q x1 M) ∧ (¬ (9 : Int32) ≤ x2 → D5_layRound_c22 (D5_layRound_c11 K2 Q n) K2 Q FU x1 x2 (-1 : Int32) (0 : Int32) M))
def D5_layRound_c2 (Q : MM → Prop) : Nat → Int32 → MM → Prop
  | 0, _, _ => False
  | n + 1, x1, M => (((256 : Int32) ≤ x1 → Q M) ∧ (¬ (256 : Int32) ≤ x1 → D5_layRound_c11 (D5_layRound_c2 Q n) Q FU x1 (0 : Int32) M))
def D5_layRound (M : MM) (Q : MM → Prop) : Prop := D5_layRound_c2 Q FU (0 : Int32) M
set_option maxHeartbeats 4000000 in
set_option maxRecDepth 100000 in
theorem s5_layRound_c92 {G : GG} {K22 : Int32 → Int32 → Int32 → Int32 → MM → Prop} {K11 : Int32 → Int32 → MM → Prop} {K2 : Int32 → MM → Prop} {Q : MM → Prop} (hK22 : ∀ (x1 : Int32) (x2 : Int32) (x3 : Int32) (x4 : Int32) (M : MM), K22 x1 x2 x3 x4 M → A5_layRound G Q 22 [(0, .ref (gA G 62)), (1, .int x1), (2, .int x2), (3, .int x3), (4, .int x4)] [] M) (hK11 : ∀ (x1 : Int32) (x2 : Int32) (M : MM), K11 x1 x2 M → A5_layRound G Q 11 [(0, .ref (gA G 62)), (1, .int x1), (2, .int x2)] [] M) (hK2 : ∀ (x1 : Int32) (M : MM), K2 x1 M → A5_layRound G Q 2 [(0, .ref (gA G 62)), (1, .int x1)] [] M) : ∀ (x1 : Int32) (x2 : Int32) (x3 : Int32) (x4 : Int32) (M : MM), D5_layRound_c92 K22 K11 K2 Q x1 x2 x3 x4 M → A5_layRound G Q 92 [(0, .ref (gA G 62)), (1, .int x1), (2, .int x2), (3, .int x3), (4, .int x4)] [] M := by
  intro x1 x2 x3 x4 M h
  unfold D5_layRound_c92 at h
  refine a_iinc (L' := [(4, .int _), (0, .ref _), (1, .int _), (2, .int _), (3, .int _)]) dX5_layRound_92 4 rfl (show _ + Int32.ofInt (1 : Int) = _ + (1 : Int32) from rfl) (by decide) rfl ?_
  refine a_goto (tgt := 22) dX5_layRound_95 (by decide) ?_
  refine a_sub [1, 2, 3, 4, 0] rfl ?_
  exact hK22 _ _ _ _ _ h
set_option maxHeartbeats 4000000 in
set_option maxRecDepth 100000 in
theorem s5_layRound_c91 {G : GG} {K22 : Int32 → Int32 → Int32 → Int32 → MM → Prop} {K11 : Int32 → Int32 → MM → Prop} {K2 : Int32 → MM → Prop} {Q : MM → Prop} (hK22 : ∀ (x1 : Int32) (x2 : Int32) (x3 : Int32) (x4 : Int32) (M : MM), K22 x1 x2 x3 x4 M → A5_layRound G Q 22 [(0, .ref (gA G 62)), (1, .int x1), (2, .int x2), (3, .int x3), (4, .int x4)] [] M) (hK11 : ∀ (x1 : Int32) (x2 : Int32) (M : MM), K11 x1 x2 M → A5_layRound G Q 11 [(0, .ref (gA G 62)), (1, .int x1), (2, .int x2)] [] M) (hK2 : ∀ (x1 : Int32) (M : MM), K2 x1 M → A5_layRound G Q 2 [(0, .ref (gA G 62)), (1, .int x1)] [] M) : ∀ (x1 : Int32) (x2 : Int32) (x4 : Int32) (s0 : Int32) (M : MM), D5_layRound_c91 K22 K11 K2 Q x1 x2 x4 s0 M → A5_layRound G Q 91 [(0, .ref (gA G 62)), (1, .int x1), (2, .int x2), (4, .int x4)] [.int s0] M := by
  intro x1 x2 x4 s0 M h
  unfold D5_layRound_c91 at h
  refine a_istore_n (i := 3) (L' := [(3, .int _), (0, .ref _), (1, .int _), (2, .int _), (4, .int _)]) dX5_layRound_91 rfl (by decide) rfl ?_
  refine a_sub [1, 2, 3, 0, 4] rfl ?_
  exact s5_layRound_c92 hK22 hK11 hK2 _ _ _ _ _ h
set_option maxHeartbeats 4000000 in
set_option maxRecDepth 100000 in
theorem s5_layRound_c85 {G : GG} {K22 : Int32 → Int32 → Int32 → Int32 → MM → Prop} {K11 : Int32 → Int32 → MM → Prop} {K2 : Int32 → MM → Prop} {Q : MM → Prop} (hK22 : ∀ (x1 : Int32) (x2 : Int32) (x3 : Int32) (x4 : Int32) (M : MM), K22 x1 x2 x3 x4 M → A5_layRound G Q 22 [(0, .ref (gA G 62)), (1, .int x1), (2, .int x2), (3, .int x3), (4, .int x4)] [] M) (hK11 : ∀ (x1 : Int32) (x2 : Int32) (M : MM), K11 x1 x2 M → A5_layRound G Q 11 [(0, .ref (gA G 62)), (1, .int x1), (2, .int x2)] [] M) (hK2 : ∀ (x1 : Int32) (M : MM), K2 x1 M → A5_layRound G Q 2 [(0, .ref (gA G 62)), (1, .int x1)] [] M) : ∀ (x1 : Int32) (x2 : Int32) (x4 : Int32) (x5 : Int32) (M : MM), D5_layRound_c85 K22 K11 K2 Q x1 x2 x4 x5 M → A5_layRound G Q 85 [(0, .ref (gA G 62)), (1, .int x1), (2, .int x2), (4, .int x4), (5, .int x5)] [] M := by
  intro x1 x2 x4 x5 M h
  unfold D5_layRound_c85 at h
  refine a_iload dX5_layRound_85 4 rfl ?_
  refine a_goto (tgt := 91) dX5_layRound_87 (by decide) ?_
  refine a_sub [0, 1, 2, 3] rfl ?_
  exact s5_layRound_c91 hK22 hK11 hK2 _ _ _ _ _ h
set_option maxHeartbeats 4000000 in
set_option maxRecDepth 100000 in
theorem s5_layRound_c117 {G : GG} {K11 : Int32 → Int32 → MM → Prop} {K2 : Int32 → MM → Prop} {Q : MM → Prop} (hK11 : ∀ (x1 : Int32) (x2 : Int32) (M : MM), K11 x1 x2 M → A5_layRound G Q 11 [(0, .ref (gA G 62)), (1, .int x1), (2, .int x2)] [] M) (hK2 : ∀ (x1 : Int32) (M : MM), K2 x1 M → A5_layRound G Q 2 [(0, .ref (gA G 62)), (1, .int x1)] [] M) : ∀ (x1 : Int32) (x2 : Int32) (s0 : Int32) (s1 : Int32) (s2 : Nat) (M : MM), D5_layRound_c117 K11 K2 Q x1 x2 s0 s1 s2 M → A5_layRound G Q 117 [(0, .ref (gA G 62)), (1, .int x1), (2, .int x2)] [.int s0, .int s1, .ref (gA G s2)] M := by
  intro x1 x2 s0 s1 s2 M h
  unfold D5_layRound_c117 at h
  refine a_iast dX5_layRound_117 h.1 ?_
  have h := h.2
  refine a_iinc (L' := [(2, .int _), (0, .ref _), (1, .int _)]) dX5_layRound_118 2 rfl (show _ + Int32.ofInt (1 : Int) = _ + (1 : Int32) from rfl) (by decide) rfl ?_
  refine a_goto (tgt := 11) dX5_layRound_121 (by decide) ?_
  refine a_sub [1, 2, 0] rfl ?_
  exact hK11 _ _ _ h
set_option maxHeartbeats 4000000 in
set_option maxRecDepth 100000 in
theorem s5_layRound_c98 {G : GG} {K11 : Int32 → Int32 → MM → Prop} {K2 : Int32 → MM → Prop} {Q : MM → Prop} (hK11 : ∀ (x1 : Int32) (x2 : Int32) (M : MM), K11 x1 x2 M → A5_layRound G Q 11 [(0, .ref (gA G 62)), (1, .int x1), (2, .int x2)] [] M) (hK2 : ∀ (x1 : Int32) (M : MM), K2 x1 M → A5_layRound G Q 2 [(0, .ref (gA G 62)), (1, .int x1)] [] M) : ∀ (x1 : Int32) (x2 : Int32) (x3 : Int32) (M : MM), D5_layRound_c98 K11 K2 Q x1 x2 x3 M → A5_layRound G Q 98 [(0, .ref (gA G 62)), (1, .int x1), (2, .int x2), (3, .int x3)] [] M := by
  intro x1 x2 x3 M h
  unfold D5_layRound_c98 at h
  refine a_aload_n dX5_layRound_98 0 rfl ?_
  refine a_get3 dX5_layRound_99 34 (by decide) (tbc _ kF_RX5_61) (fun w h => tbc _ (uW3 w h)) rfl ob_62 rfl ?_
  refine a_bipush (v := 9) dX5_layRound_102 (by decide) ?_
  refine a_iload_n dX5_layRound_104 1 rfl ?_
  refine a_imul dX5_layRound_105 ?_
  refine a_iload_n dX5_layRound_106 2 rfl ?_
  refine a_iadd dX5_layRound_107 ?_
  refine a_iload_n dX5_layRound_108 3 rfl ?_
  refine a_if_ge (tgt := 116) dX5_layRound_109 (by decide) (fun c => ?_) (fun c => ?_)
  · have h := h.1 c
    refine a_iload_n dX5_layRound_116 3 rfl ?_
    refine a_sub [0, 1, 2] rfl ?_
    exact s5_layRound_c117 hK11 hK2 _ _ _ _ _ _ h
  · have h := h.2 c
    refine a_iconst (v := 0) dX5_layRound_112 (by decide) ?_
    refine a_goto (tgt := 117) dX5_layRound_113 (by decide) ?_
    refine a_sub [0, 1, 2] rfl ?_
    exact s5_layRound_c117 hK11 hK2 _ _ _ _ _ _ h
set_option maxHeartbeats 4000000 in
set_option maxRecDepth 100000 in
theorem s5_layRound_c22 {G : GG} {K11 : Int32 → Int32 → MM → Prop} {K2 : Int32 → MM → Prop} {Q : MM → Prop} (hK11 : ∀ (x1 : Int32) (x2 : Int32) (M : MM), K11 x1 x2 M → A5_layRound G Q 11 [(0, .ref (gA G 62)), (1, .int x1), (2, .int x2)] [] M) (hK2 : ∀ (x1 : Int32) (M : MM), K2 x1 M → A5_layRound G Q 2 [(0, .ref (gA G 62)), (1, .int x1)] [] M) : ∀ (n : Nat) (x1 : Int32) (x2 : Int32) (x3 : Int32) (x4 : Int32) (M : MM), D5_layRound_c22 K11 K2 Q n x1 x2 x3 x4 M → A5_layRound G Q 22 [(0, .ref (gA G 62)), (1, .int x1), (2, .int x2), (3, .int x3), (4, .int x4)] [] M := by
  intro n
  induction n with
  | zero => intro x1 x2 x3 x4 M h; exact h.elim
  | succ n ih =>
    intro x1 x2 x3 x4 M h
    unfold D5_layRound_c22 at h
    refine a_iload dX5_layRound_22 4 rfl ?_
    refine a_aload_n dX5_layRound_24 0 rfl ?_
    refine a_get3 dX5_layRound_25 0 (by decide) (tbc _ kF_RX5_77) (fun w h => tbc _ (uW3 w h)) rfl ob_62 rfl ?_
    refine a_icmp_ge (tgt := 98) dX5_layRound_28 (by decide) (fun c => ?_) (fun c => ?_)
    · have h := h.1 c
      refine a_sub [0, 1, 2, 3] rfl ?_
      exact s5_layRound_c98 hK11 hK2 _ _ _ _ h
    · have h := h.2 c
      refine a_iload_n dX5_layRound_31 1 rfl ?_
      refine a_iload dX5_layRound_32 4 rfl ?_
      refine a_callSi (n := 2) [.int _, .int _] dX5_layRound_34 (s5_hasBit h) (gS tbc kM_RX5_93_X5_hasBit kT_X5_hasBit kN_RX5 kC_X5_hasBit) rfl (by decide +kernel) ⟨Nat.le_of_ble_eq_true rfl, Nat.le_of_ble_eq_true rfl⟩ rfl rfl (Nat.le_of_ble_eq_true rfl) ⟨Nat.le_refl 0, Nat.le_refl 0⟩ (fun r M h => ?_)
      refine a_if_eq (tgt := 92) dX5_layRound_37 (by decide) (fun c => ?_) (fun c => ?_)
      · have h := h.1 c
        refine a_sub [0, 1, 2, 3, 4] rfl ?_
        exact s5_layRound_c92 ih hK11 hK2 _ _ _ _ _ h
      · have h := h.2 c
        refine a_aload_n dX5_layRound_40 0 rfl ?_
        refine a_iload_n dX5_layRound_41 2 rfl ?_
        refine a_callVi (n := 1) [.int _] (C := RX5) (ci := 3) (qc := (RX5, TX5, 40)) (fsF := fl3 G _) ob_62.1 (fun _ => en3 ob_62.2) rfl rfl dX5_layRound_42 (s5_cellOf h) (gV tbc kM_RX5_280_X5_cellOf kI_X5_cellOf kS_X5_cellOf kN_RX5 kC_X5_cellOf) rfl (by decide +kernel) ⟨Nat.le_of_ble_eq_true rfl, Nat.le_of_ble_eq_true rfl⟩ rfl rfl (Nat.le_of_ble_eq_true rfl) ⟨Nat.le_refl 0, Nat.le_refl 0⟩ (fun r M h => ?_)
        refine a_aload_n dX5_layRound_45 0 rfl ?_
        refine a_get3 dX5_layRound_46 3 (by decide) (tbc _ kF_RX5_16) (fun w h => tbc _ (uW3 w h)) rfl ob_62 rfl ?_
        refine a_iload dX5_layRound_49 4 rfl ?_
        refine a_iald dX5_layRound_51 h.1 ?_
        have h := h.2
        refine a_callSi (n := 2) [.int _, .int _] dX5_layRound_52 (s5_stepsOf h) (gS tbc kM_RX5_283_X5_stepsOf kT_X5_stepsOf kN_RX5 kC_X5_stepsOf) rfl (by decide +kernel) ⟨Nat.le_of_ble_eq_true rfl, Nat.le_of_ble_eq_true rfl⟩ rfl rfl (Nat.le_of_ble_eq_true rfl) ⟨Nat.le_refl 0, Nat.le_refl 0⟩ (fun r M h => ?_)
        refine a_aload_n dX5_layRound_55 0 rfl ?_
        refine a_get3 dX5_layRound_56 34 (by decide) (tbc _ kF_RX5_61) (fun w h => tbc _ (uW3 w h)) rfl ob_62 rfl ?_
        refine a_bipush (v := 9) dX5_layRound_59 (by decide) ?_
        refine a_iload_n dX5_layRound_61 1 rfl ?_
        refine a_iconst (v := 1) dX5_layRound_62 (by decide) ?_
        refine a_iload dX5_layRound_63 4 rfl ?_
        refine a_ishl dX5_layRound_65 ?_
        refine a_isub dX5_layRound_66 ?_
        refine a_imul dX5_layRound_67 ?_
        refine a_iload dX5_layRound_68 4 rfl ?_
        refine a_iadd dX5_layRound_70 ?_
        refine a_iald dX5_layRound_71 h.1 ?_
        have h := h.2
        refine a_iadd dX5_layRound_72 ?_
        refine a_istore (i := 5) (L' := [(5, .int _), (0, .ref _), (1, .int _), (2, .int _), (3, .int _), (4, .int _)]) dX5_layRound_73 (by decide) rfl ?_
        refine a_iload_n dX5_layRound_75 4 rfl ?_
        refine a_if_lt (tgt := 85) dX5_layRound_76 (by decide) (fun c => ?_) (fun c => ?_)
        · have h := h.1 c
          refine a_sub [1, 2, 3, 5, 0] rfl ?_
          exact s5_layRound_c85 ih hK11 hK2 _ _ _ _ _ h
        · have h := h.2 c
          refine a_iload dX5_layRound_79 0 rfl ?_
          refine a_iload_n dX5_layRound_81 4 rfl ?_
          refine a_icmp_ge (tgt := 90) dX5_layRound_82 (by decide) (fun c => ?_) (fun c => ?_)
          · have h := h.1 c
            refine a_iload_n dX5_layRound_90 4 rfl ?_
            refine a_sub [1, 2, 3, 5] rfl ?_
            exact s5_layRound_c91 ih hK11 hK2 _ _ _ _ _ h
          · have h := h.2 c
            refine a_sub [1, 2, 3, 5, 0] rfl ?_
            exact s5_layRound_c85 ih hK11 hK2 _ _ _ _ _ h
set_option maxHeartbeats 4000000 in
set_option maxRecDepth 100000 in
theorem s5_layRound_c124 {G : GG} {K2 : Int32 → MM → Prop} {Q : MM → Prop} (hK2 : ∀ (x1 : Int32) (M : MM), K2 x1 M → A5_layRound G Q 2 [(0, .ref (gA G 62)), (1, .int x1)] [] M) : ∀ (x1 : Int32) (M : MM), D5_layRound_c124 K2 Q x1 M → A5_layRound G Q 124 [(0, .ref (gA G 62)), (1, .int x1)] [] M := by
  intro x1 M h
  unfold D5_layRound_c124 at h
  refine a_iinc (L' := [(1, .int _), (0, .ref _)]) dX5_layRound_124 1 rfl (show _ + Int32.ofInt (1 : Int) = _ + (1 : Int32) from rfl) (by decide) rfl ?_
  refine a_goto (tgt := 2) dX5_layRound_127 (by decide) ?_
  refine a_sub [1, 0] rfl ?_
  exact hK2 _ _ h
set_option maxHeartbeats 4000000 in
set_option maxRecDepth 100000 in
theorem s5_layRound_c11 {G : GG} {K2 : Int32 → MM → Prop} {Q : MM → Prop} (hK2 : ∀ (x1 : Int32) (M : MM), K2 x1 M → A5_layRound G Q 2 [(0, .ref (gA G 62)), (1, .int x1)] [] M) : ∀ (n : Nat) (x1 : Int32) (x2 : Int32) (M : MM), D5_layRound_c11 K2 Q n x1 x2 M → A5_layRound G Q 11 [(0, .ref (gA G 62)), (1, .int x1), (2, .int x2)] [] M := by
  intro n
  induction n with
  | zero => intro x1 x2 M h; exact h.elim
  | succ n ih =>
    intro x1 x2 M h
    unfold D5_layRound_c11 at h
    refine a_iload_n dX5_layRound_11 2 rfl ?_
    refine a_bipush (v := 9) dX5_layRound_12 (by decide) ?_
    refine a_icmp_ge (tgt := 124) dX5_layRound_14 (by decide) (fun c => ?_) (fun c => ?_)
    · have h := h.1 c
      refine a_sub [0, 1] rfl ?_
      exact s5_layRound_c124 hK2 _ _ h
    · have h := h.2 c
      refine a_iconst (v := -1) dX5_layRound_17 (by decide) ?_
      refine a_istore_n (i := 3) (L' := [(3, .int _), (0, .ref _), (1, .int _), (2, .int _)]) dX5_layRound_18 rfl (by decide) rfl ?_
      refine a_iconst (v := 0) dX5_layRound_19 (by decide) ?_
      refine a_istore (i := 4) (L' := [(4, .int _), (3, .int _), (0, .ref _), (1, .int _), (2, .int _)]) dX5_layRound_20 (by decide) rfl ?_
      refine a_sub [2, 3, 4, 1, 0] rfl ?_
      exact s5_layRound_c22 ih hK2 _ _ _ _ _ _ h
set_option maxHeartbeats 4000000 in
set_option maxRecDepth 100000 in
theorem s5_layRound_c2 {G : GG} {Q : MM → Prop} : ∀ (n : Nat) (x1 : Int32) (M : MM), D5_layRound_c2 Q n x1 M → A5_layRound G Q 2 [(0, .ref (gA G 62)), (1, .int x1)] [] M := by
  intro n
  induction n with
  | zero => intro x1 M h; exact h.elim
  | succ n ih =>
    intro x1 M h
    unfold D5_layRound_c2 at h
    refine a_iload_n dX5_layRound_2 1 rfl ?_
    refine a_sipush (v := 256) dX5_layRound_3 (by decide) ?_
    refine a_icmp_ge (tgt := 130) dX5_layRound_6 (by decide) (fun c => ?_) (fun c => ?_)
    · have h := h.1 c
      exact a_vret dX5_layRound_130 ⟨rfl, h⟩
    · have h := h.2 c
      refine a_iconst (v := 0) dX5_layRound_9 (by decide) ?_
      refine a_istore_n (i := 2) (L' := [(2, .int _), (0, .ref _), (1, .int _)]) dX5_layRound_10 rfl (by decide) rfl ?_
      refine a_sub [1, 2, 0] rfl ?_
      exact s5_layRound_c11 ih _ _ _ _ h
set_option maxHeartbeats 4000000 in
set_option maxRecDepth 100000 in
theorem s5_layRound {G : GG} {M : MM} {Q : MM → Prop} (h : D5_layRound M Q) : CM G yX5_layRound (WY yX5_layRound cX5_layRound 6 none) 1 23 [.ref (gA G 62)] M (qV Q) := by
  refine CM.of (cc := cX5_layRound) (nL := 6) (ret := none) (own := RX5) (by decide +kernel) rfl rfl (Nat.le_of_ble_eq_true rfl) ?_
  show A5_layRound G Q 0 [(0, .ref (gA G 62))] [] M
  unfold D5_layRound at h
  refine a_iconst (v := 0) dX5_layRound_0 (by decide) ?_
  refine a_istore_n (i := 1) (L' := [(1, .int _), (0, .ref _)]) dX5_layRound_1 rfl (by decide) rfl ?_
  refine a_sub [1, 0] rfl ?_
  exact s5_layRound_c2 _ _ _ h

/-! X5_level -/
theorem dX5_level_0 : decode cX5_level 0 = .ok (.aload_n 0, 1) := by decide +kernel
theorem dX5_level_1 : decode cX5_level 1 = .ok (.iconst 0, 1) := by decide +kernel
theorem dX5_level_2 : decode cX5_level 2 = .ok (.putfield 73, 3) := by decide +kernel
theorem dX5_level_5 : decode cX5_level 5 = .ok (.iload_n 1, 1) := by decide +kernel
theorem dX5_level_6 : decode cX5_level 6 = .ok (.iconst 0, 1) := by decide +kernel
theorem dX5_level_7 : decode cX5_level 7 = .ok (.bipush 60, 2) := by decide +kernel
theorem dX5_level_9 : decode cX5_level 9 = .ok (.invokestatic 244, 3) := by decide +kernel
theorem dX5_level_12 : decode cX5_level 12 = .ok (.istore_n 2, 1) := by decide +kernel
theorem dX5_level_13 : decode cX5_level 13 = .ok (.iload_n 2, 1) := by decide +kernel
theorem dX5_level_14 : decode cX5_level 14 = .ok (.ifCond .ge 11, 3) := by decide +kernel
theorem dX5_level_17 : decode cX5_level 17 = .ok (.aload_n 0, 1) := by decide +kernel
theorem dX5_level_18 : decode cX5_level 18 = .ok (.iload_n 2, 1) := by decide +kernel
theorem dX5_level_19 : decode cX5_level 19 = .ok (.invokevirtual 149, 3) := by decide +kernel
theorem dX5_level_22 : decode cX5_level 22 = .ok (.goto 12, 3) := by decide +kernel
theorem dX5_level_25 : decode cX5_level 25 = .ok (.aload_n 0, 1) := by decide +kernel
theorem dX5_level_26 : decode cX5_level 26 = .ok (.getfield 114, 3) := by decide +kernel
theorem dX5_level_29 : decode cX5_level 29 = .ok (.iload_n 1, 1) := by decide +kernel
theorem dX5_level_30 : decode cX5_level 30 = .ok (.iadd, 1) := by decide +kernel
theorem dX5_level_31 : decode cX5_level 31 = .ok (.invokestatic 117, 3) := by decide +kernel
theorem dX5_level_34 : decode cX5_level 34 = .ok (.ireturn, 1) := by decide +kernel
abbrev A5_level (G : GG) (Q : Int32 → MM → Prop) := AW G E0 (MZ G (qI Q)) (WY yX5_level cX5_level 3 (some .int)) RX5 cX5_level 3 (some .int) ({ frames := 2, cells := 0, slots := 0, locals := 42 } : Room) 0 0
def D5_level (x1 : Int32) (M : MM) (Q : Int32 → MM → Prop) : Prop := (fun M1 : MM => D5_wrongNumber x1 (0 : Int32) (60 : Int32) M1 (fun (r2 : Int32) (M3 : MM) => ((0 ≤ r2 → D5_levelAt ((M3 62 8) + x1) M3 (fun (r4 : Int32) (M5 : MM) => Q r4 M5)) ∧ (¬ 0 ≤ r2 → D5_refuse r2 M3 (fun (r6 : Int32) (M7 : MM) => Q r6 M7))))) (up M 62 9 (0 : Int32))
set_option maxHeartbeats 4000000 in
set_option maxRecDepth 100000 in
theorem s5_level {G : GG} {x1 : Int32} {M : MM} {Q : Int32 → MM → Prop} (h : D5_level x1 M Q) : CM G yX5_level (WY yX5_level cX5_level 3 (some .int)) 2 42 [.ref (gA G 62), .int x1] M (qI Q) := by
  refine CM.of (cc := cX5_level) (nL := 3) (ret := (some .int)) (own := RX5) (by decide +kernel) rfl rfl (Nat.le_of_ble_eq_true rfl) ?_
  show A5_level G Q 0 [(0, .ref (gA G 62)), (1, .int x1)] [] M
  unfold D5_level at h
  refine a_aload_n dX5_level_0 0 rfl ?_
  refine a_iconst (v := 0) dX5_level_1 (by decide) ?_
  refine a_put3 dX5_level_2 9 (by decide) (tbc _ kF_RX5_73) (fun w h => tbc _ (uW3 w h)) rfl rfl rfl rfl ob_62 fs3_9 ?_
  refine a_iload_n dX5_level_5 1 rfl ?_
  refine a_iconst (v := 0) dX5_level_6 (by decide) ?_
  refine a_bipush (v := 60) dX5_level_7 (by decide) ?_
  refine a_callSi (n := 3) [.int _, .int _, .int _] dX5_level_9 (s5_wrongNumber h) (gS tbc kM_RX5_244_X5_wrongNumber kT_X5_wrongNumber kN_RX5 kC_X5_wrongNumber) rfl (by decide +kernel) ⟨Nat.le_of_ble_eq_true rfl, Nat.le_of_ble_eq_true rfl⟩ rfl rfl (Nat.le_of_ble_eq_true rfl) ⟨Nat.le_refl 0, Nat.le_refl 0⟩ (fun r M h => ?_)
  refine a_istore_n (i := 2) (L' := [(2, .int _), (0, .ref _), (1, .int _)]) dX5_level_12 rfl (by decide) rfl ?_
  refine a_iload_n dX5_level_13 0 rfl ?_
  refine a_if_ge (tgt := 25) dX5_level_14 (by decide) (fun c => ?_) (fun c => ?_)
  · have h := h.1 c
    refine a_aload_n dX5_level_25 1 rfl ?_
    refine a_get3 dX5_level_26 8 (by decide) (tbc _ kF_RX5_114) (fun w h => tbc _ (uW3 w h)) rfl ob_62 rfl ?_
    refine a_iload_n dX5_level_29 2 rfl ?_
    refine a_iadd dX5_level_30 ?_
    refine a_callSi (n := 1) [.int _] dX5_level_31 (s5_levelAt h) (gS tbc kM_RX5_117_X5_levelAt kT_X5_levelAt kN_RX5 kC_X5_levelAt) rfl (by decide +kernel) ⟨Nat.le_of_ble_eq_true rfl, Nat.le_of_ble_eq_true rfl⟩ rfl rfl (Nat.le_of_ble_eq_true rfl) ⟨Nat.le_refl 0, Nat.le_refl 0⟩ (fun r M h => ?_)
    exact a_iret dX5_level_34 ⟨_, rfl, h⟩
  · have h := h.2 c
    refine a_aload_n dX5_level_17 1 rfl ?_
    refine a_iload_n dX5_level_18 0 rfl ?_
    refine a_callVi (n := 1) [.int _] (C := RX5) (ci := 3) (qc := (RX5, TX5, 40)) (fsF := fl3 G _) ob_62.1 (fun _ => en3 ob_62.2) rfl rfl dX5_level_19 (s5_refuse h) (gV tbc kM_RX5_149_X5_refuse kI_X5_refuse kS_X5_refuse kN_RX5 kC_X5_refuse) rfl (by decide +kernel) ⟨Nat.le_of_ble_eq_true rfl, Nat.le_of_ble_eq_true rfl⟩ rfl rfl (Nat.le_of_ble_eq_true rfl) ⟨Nat.le_refl 0, Nat.le_refl 0⟩ (fun r M h => ?_)
    refine a_goto (tgt := 34) dX5_level_22 (by decide) ?_
    exact a_iret dX5_level_34 ⟨_, rfl, h⟩

/-! X5_lots -/
theorem dX5_lots_0 : decode cX5_lots 0 = .ok (.aload_n 0, 1) := by decide +kernel
theorem dX5_lots_1 : decode cX5_lots 1 = .ok (.iconst 0, 1) := by decide +kernel
theorem dX5_lots_2 : decode cX5_lots 2 = .ok (.putfield 73, 3) := by decide +kernel
theorem dX5_lots_5 : decode cX5_lots 5 = .ok (.iload_n 1, 1) := by decide +kernel
theorem dX5_lots_6 : decode cX5_lots 6 = .ok (.iconst 1, 1) := by decide +kernel
theorem dX5_lots_7 : decode cX5_lots 7 = .ok (.bipush 20, 2) := by decide +kernel
theorem dX5_lots_9 : decode cX5_lots 9 = .ok (.invokestatic 244, 3) := by decide +kernel
theorem dX5_lots_12 : decode cX5_lots 12 = .ok (.iload_n 3, 1) := by decide +kernel
theorem dX5_lots_13 : decode cX5_lots 13 = .ok (.iconst 1, 1) := by decide +kernel
theorem dX5_lots_14 : decode cX5_lots 14 = .ok (.invokestatic 260, 3) := by decide +kernel
theorem dX5_lots_17 : decode cX5_lots 17 = .ok (.istore 4, 2) := by decide +kernel
theorem dX5_lots_19 : decode cX5_lots 19 = .ok (.iload 4, 2) := by decide +kernel
theorem dX5_lots_21 : decode cX5_lots 21 = .ok (.ifCond .ge 10, 3) := by decide +kernel
theorem dX5_lots_24 : decode cX5_lots 24 = .ok (.aload_n 0, 1) := by decide +kernel
theorem dX5_lots_25 : decode cX5_lots 25 = .ok (.iload 4, 2) := by decide +kernel
theorem dX5_lots_27 : decode cX5_lots 27 = .ok (.invokevirtual 149, 3) := by decide +kernel
theorem dX5_lots_30 : decode cX5_lots 30 = .ok (.ireturn, 1) := by decide +kernel
theorem dX5_lots_31 : decode cX5_lots 31 = .ok (.aload_n 0, 1) := by decide +kernel
theorem dX5_lots_32 : decode cX5_lots 32 = .ok (.iload_n 2, 1) := by decide +kernel
theorem dX5_lots_33 : decode cX5_lots 33 = .ok (.putfield 332, 3) := by decide +kernel
theorem dX5_lots_36 : decode cX5_lots 36 = .ok (.iconst 0, 1) := by decide +kernel
theorem dX5_lots_37 : decode cX5_lots 37 = .ok (.istore 5, 2) := by decide +kernel
theorem dX5_lots_39 : decode cX5_lots 39 = .ok (.aload_n 0, 1) := by decide +kernel
theorem dX5_lots_40 : decode cX5_lots 40 = .ok (.invokevirtual 209, 3) := by decide +kernel
theorem dX5_lots_43 : decode cX5_lots 43 = .ok (.iconst 0, 1) := by decide +kernel
theorem dX5_lots_44 : decode cX5_lots 44 = .ok (.istore 6, 2) := by decide +kernel
theorem dX5_lots_46 : decode cX5_lots 46 = .ok (.iload 6, 2) := by decide +kernel
theorem dX5_lots_48 : decode cX5_lots 48 = .ok (.iload_n 1, 1) := by decide +kernel
theorem dX5_lots_49 : decode cX5_lots 49 = .ok (.if_icmp .ge 93, 3) := by decide +kernel
theorem dX5_lots_52 : decode cX5_lots 52 = .ok (.iconst 0, 1) := by decide +kernel
theorem dX5_lots_53 : decode cX5_lots 53 = .ok (.istore 7, 2) := by decide +kernel
theorem dX5_lots_55 : decode cX5_lots 55 = .ok (.iload 7, 2) := by decide +kernel
theorem dX5_lots_57 : decode cX5_lots 57 = .ok (.aload_n 0, 1) := by decide +kernel
theorem dX5_lots_58 : decode cX5_lots 58 = .ok (.getfield 77, 3) := by decide +kernel
theorem dX5_lots_61 : decode cX5_lots 61 = .ok (.if_icmp .ge 42, 3) := by decide +kernel
theorem dX5_lots_64 : decode cX5_lots 64 = .ok (.aload_n 0, 1) := by decide +kernel
theorem dX5_lots_65 : decode cX5_lots 65 = .ok (.getfield 19, 3) := by decide +kernel
theorem dX5_lots_68 : decode cX5_lots 68 = .ok (.iload 7, 2) := by decide +kernel
theorem dX5_lots_70 : decode cX5_lots 70 = .ok (.aload_n 0, 1) := by decide +kernel
theorem dX5_lots_71 : decode cX5_lots 71 = .ok (.getfield 22, 3) := by decide +kernel
theorem dX5_lots_74 : decode cX5_lots 74 = .ok (.iload 7, 2) := by decide +kernel
theorem dX5_lots_76 : decode cX5_lots 76 = .ok (.iaload, 1) := by decide +kernel
theorem dX5_lots_77 : decode cX5_lots 77 = .ok (.ifCond .ne 12, 3) := by decide +kernel
theorem dX5_lots_80 : decode cX5_lots 80 = .ok (.aload_n 0, 1) := by decide +kernel
theorem dX5_lots_81 : decode cX5_lots 81 = .ok (.bipush 6, 2) := by decide +kernel
theorem dX5_lots_83 : decode cX5_lots 83 = .ok (.invokevirtual 338, 3) := by decide +kernel
theorem dX5_lots_86 : decode cX5_lots 86 = .ok (.goto 10, 3) := by decide +kernel
theorem dX5_lots_89 : decode cX5_lots 89 = .ok (.aload_n 0, 1) := by decide +kernel
theorem dX5_lots_90 : decode cX5_lots 90 = .ok (.getfield 19, 3) := by decide +kernel
theorem dX5_lots_93 : decode cX5_lots 93 = .ok (.iload 7, 2) := by decide +kernel
theorem dX5_lots_95 : decode cX5_lots 95 = .ok (.iaload, 1) := by decide +kernel
theorem dX5_lots_96 : decode cX5_lots 96 = .ok (.iastore, 1) := by decide +kernel
theorem dX5_lots_97 : decode cX5_lots 97 = .ok (.iinc 7 1, 3) := by decide +kernel
theorem dX5_lots_100 : decode cX5_lots 100 = .ok (.goto (-45), 3) := by decide +kernel
theorem dX5_lots_103 : decode cX5_lots 103 = .ok (.aload_n 0, 1) := by decide +kernel
theorem dX5_lots_104 : decode cX5_lots 104 = .ok (.bipush 12, 2) := by decide +kernel
theorem dX5_lots_106 : decode cX5_lots 106 = .ok (.invokevirtual 200, 3) := by decide +kernel
theorem dX5_lots_109 : decode cX5_lots 109 = .ok (.iload 5, 2) := by decide +kernel
theorem dX5_lots_111 : decode cX5_lots 111 = .ok (.iload_n 3, 1) := by decide +kernel
theorem dX5_lots_112 : decode cX5_lots 112 = .ok (.ifCond .ne 13, 3) := by decide +kernel
theorem dX5_lots_115 : decode cX5_lots 115 = .ok (.aload_n 0, 1) := by decide +kernel
theorem dX5_lots_116 : decode cX5_lots 116 = .ok (.invokevirtual 251, 3) := by decide +kernel
theorem dX5_lots_119 : decode cX5_lots 119 = .ok (.invokestatic 254, 3) := by decide +kernel
theorem dX5_lots_122 : decode cX5_lots 122 = .ok (.goto 7, 3) := by decide +kernel
theorem dX5_lots_125 : decode cX5_lots 125 = .ok (.aload_n 0, 1) := by decide +kernel
theorem dX5_lots_126 : decode cX5_lots 126 = .ok (.getfield 131, 3) := by decide +kernel
theorem dX5_lots_129 : decode cX5_lots 129 = .ok (.iadd, 1) := by decide +kernel
theorem dX5_lots_130 : decode cX5_lots 130 = .ok (.istore 5, 2) := by decide +kernel
theorem dX5_lots_132 : decode cX5_lots 132 = .ok (.aload_n 0, 1) := by decide +kernel
theorem dX5_lots_133 : decode cX5_lots 133 = .ok (.invokevirtual 215, 3) := by decide +kernel
theorem dX5_lots_136 : decode cX5_lots 136 = .ok (.iinc 6 1, 3) := by decide +kernel
theorem dX5_lots_139 : decode cX5_lots 139 = .ok (.goto (-93), 3) := by decide +kernel
theorem dX5_lots_142 : decode cX5_lots 142 = .ok (.iload 5, 2) := by decide +kernel
theorem dX5_lots_144 : decode cX5_lots 144 = .ok (.ireturn, 1) := by decide +kernel
abbrev A5_lots (G : GG) (Q : Int32 → MM → Prop) := AW G E0 (MZ G (qI Q)) (WY yX5_lots cX5_lots 8 (some .int)) RX5 cX5_lots 8 (some .int) ({ frames := 5, cells := 0, slots := 0, locals := 111 } : Room) 0 0
def D5_lots_c96 (K55 : Int32 → Int32 → Int32 → Int32 → Int32 → MM → Prop) (K46 : Int32 → Int32 → Int32 → Int32 → MM → Prop) (Q : Int32 → MM → Prop) (x1 : Int32) (x3 : Int32) (x5 : Int32) (x6 : Int32) (x7 : Int32) (s0 : Int32) (s1 : Int32) (s2 : Nat) (M : MM) : Prop := ib s2 s1 ∧ (fun M19 : MM => (fun v20 : Int32 => K55 x1 x3 x5 x6 v20 M19) (x7 + (1 : Int32))) (up M s2 (ix s1) s0)
def D5_lots_c129 (K46 : Int32 → Int32 → Int32 → Int32 → MM → Prop) (Q : Int32 → MM → Prop) (x1 : Int32) (x3 : Int32) (x6 : Int32) (s0 : Int32) (s1 : Int32) (M : MM) : Prop := (fun v21 : Int32 => D5_again M (fun (M23 : MM) => (fun v24 : Int32 => K46 x1 x3 v21 v24 M23) (x6 + (1 : Int32)))) (s1 + s0)
def D5_lots_c103 (K46 : Int32 → Int32 → Int32 → Int32 → MM → Prop) (Q : Int32 → MM → Prop) (x1 : Int32) (x3 : Int32) (x5 : Int32) (x6 : Int32) (M : MM) : Prop := D5_goHours (12 : Int32) M (fun (M14 : MM) => ((x3 ≠ 0 → D5_lots_c129 K46 Q x1 x3 x6 (M14 62 6) x5 M14) ∧ (x3 = 0 → D5_standing M14 (fun (r15 : Int32) (M16 : MM) => D5_onesOf r15 M16 (fun (r17 : Int32) (M18 : MM) => D5_lots_c129 K46 Q x1 x3 x6 r17 x5 M18)))))
def D5_lots_c55 (K46 : Int32 → Int32 → Int32 → Int32 → MM → Prop) (Q : Int32 → MM → Prop) : Nat → Int32 → Int32 → Int32 → Int32 → Int32 → MM → Prop
  | 0, _, _, _, _, _, _ => False
  | n + 1, x1, x3, x5, x6, x7, M => (((M 62 0) ≤ x7 → D5_lots_c103 K46 Q x1 x3 x5 x6 M) ∧ (¬ (M 62 0) ≤ x7 → ib 67 x7 ∧ (((M 67 (ix x7)) ≠ 0 → ib 66 x7 ∧ D5_lots_c96 (D5_lots_c55 K46 Q n) K46 Q x1 x3 x5 x6 x7 (M 66 (ix x7)) x7 66 M) ∧ ((M 67 (ix x7)) = 0 → D5_drawBelow (6 : Int32) M (fun (r11 : Int32) (M12 : MM) => D5_lots_c96 (D5_lots_c55 K46 Q n) K46 Q x1 x3 x5 x6 x7 r11 x7 66 M12)))))
def D5_lots_c46 (Q : Int32 → MM → Prop) : Nat → Int32 → Int32 → Int32 → Int32 → MM → Prop
  | 0, _, _, _, _, _ => False
  | n + 1, x1, x3, x5, x6, M => ((x1 ≤ x6 → Q x5 M) ∧ (¬ x1 ≤ x6 → D5_lots_c55 (D5_lots_c46 Q n) Q FU x1 x3 x5 x6 (0 : Int32) M))
def D5_lots (x1 : Int32) (x2 : Int32) (x3 : Int32) (M : MM) (Q : Int32 → MM → Prop) : Prop := (fun M1 : MM => D5_wrongNumber x1 (1 : Int32) (20 : Int32) M1 (fun (r2 : Int32) (M3 : MM) => D5_wrongBit r2 x3 (1 : Int32) M3 (fun (r4 : Int32) (M5 : MM) => ((0 ≤ r4 → (fun M6 : MM => D5_think M6 (fun (M8 : MM) => D5_lots_c46 Q FU x1 x3 (0 : Int32) (0 : Int32) M8)) (up M5 62 39 x2)) ∧ (¬ 0 ≤ r4 → D5_refuse r4 M5 (fun (r9 : Int32) (M10 : MM) => Q r9 M10)))))) (up M 62 9 (0 : Int32))
set_option maxHeartbeats 4000000 in
set_option maxRecDepth 100000 in
theorem s5_lots_c96 {G : GG} {K55 : Int32 → Int32 → Int32 → Int32 → Int32 → MM → Prop} {K46 : Int32 → Int32 → Int32 → Int32 → MM → Prop} {Q : Int32 → MM → Prop} (hK55 : ∀ (x1 : Int32) (x3 : Int32) (x5 : Int32) (x6 : Int32) (x7 : Int32) (M : MM), K55 x1 x3 x5 x6 x7 M → A5_lots G Q 55 [(0, .ref (gA G 62)), (1, .int x1), (3, .int x3), (5, .int x5), (6, .int x6), (7, .int x7)] [] M) (hK46 : ∀ (x1 : Int32) (x3 : Int32) (x5 : Int32) (x6 : Int32) (M : MM), K46 x1 x3 x5 x6 M → A5_lots G Q 46 [(0, .ref (gA G 62)), (1, .int x1), (3, .int x3), (5, .int x5), (6, .int x6)] [] M) : ∀ (x1 : Int32) (x3 : Int32) (x5 : Int32) (x6 : Int32) (x7 : Int32) (s0 : Int32) (s1 : Int32) (s2 : Nat) (M : MM), D5_lots_c96 K55 K46 Q x1 x3 x5 x6 x7 s0 s1 s2 M → A5_lots G Q 96 [(0, .ref (gA G 62)), (1, .int x1), (3, .int x3), (5, .int x5), (6, .int x6), (7, .int x7)] [.int s0, .int s1, .ref (gA G s2)] M := by
  intro x1 x3 x5 x6 x7 s0 s1 s2 M h
  unfold D5_lots_c96 at h
  refine a_iast dX5_lots_96 h.1 ?_
  have h := h.2
  refine a_iinc (L' := [(7, .int _), (0, .ref _), (1, .int _), (3, .int _), (5, .int _), (6, .int _)]) dX5_lots_97 5 rfl (show _ + Int32.ofInt (1 : Int) = _ + (1 : Int32) from rfl) (by decide) rfl ?_
  refine a_goto (tgt := 55) dX5_lots_100 (by decide) ?_
  refine a_sub [1, 2, 3, 4, 5, 0] rfl ?_
  exact hK55 _ _ _ _ _ _ h
set_option maxHeartbeats 4000000 in
set_option maxRecDepth 100000 in
theorem s5_lots_c129 {G : GG} {K46 : Int32 → Int32 → Int32 → Int32 → MM → Prop} {Q : Int32 → MM → Prop} (hK46 : ∀ (x1 : Int32) (x3 : Int32) (x5 : Int32) (x6 : Int32) (M : MM), K46 x1 x3 x5 x6 M → A5_lots G Q 46 [(0, .ref (gA G 62)), (1, .int x1), (3, .int x3), (5, .int x5), (6, .int x6)] [] M) : ∀ (x1 : Int32) (x3 : Int32) (x6 : Int32) (s0 : Int32) (s1 : Int32) (M : MM), D5_lots_c129 K46 Q x1 x3 x6 s0 s1 M → A5_lots G Q 129 [(0, .ref (gA G 62)), (1, .int x1), (3, .int x3), (6, .int x6)] [.int s0, .int s1] M := by
  intro x1 x3 x6 s0 s1 M h
  unfold D5_lots_c129 at h
  refine a_iadd dX5_lots_129 ?_
  refine a_istore (i := 5) (L' := [(5, .int _), (0, .ref _), (1, .int _), (3, .int _), (6, .int _)]) dX5_lots_130 (by decide) rfl ?_
  refine a_aload_n dX5_lots_132 1 rfl ?_
  refine a_callVv (n := 0) [] (C := RX5) (ci := 3) (qc := (RX5, TX5, 40)) (fsF := fl3 G _) ob_62.1 (fun _ => en3 ob_62.2) rfl rfl dX5_lots_133 (s5_again h) (gV tbc kM_RX5_215_X5_again kI_X5_again kS_X5_again kN_RX5 kC_X5_again) rfl (by decide +kernel) ⟨Nat.le_of_ble_eq_true rfl, Nat.le_of_ble_eq_true rfl⟩ rfl rfl (Nat.le_of_ble_eq_true rfl) ⟨Nat.le_refl 0, Nat.le_refl 0⟩ (fun M h => ?_)
  refine a_iinc (L' := [(6, .int _), (5, .int _), (0, .ref _), (1, .int _), (3, .int _)]) dX5_lots_136 4 rfl (show _ + Int32.ofInt (1 : Int) = _ + (1 : Int32) from rfl) (by decide) rfl ?_
  refine a_goto (tgt := 46) dX5_lots_139 (by decide) ?_
  refine a_sub [2, 3, 4, 1, 0] rfl ?_
  exact hK46 _ _ _ _ _ h
set_option maxHeartbeats 4000000 in
set_option maxRecDepth 100000 in
theorem s5_lots_c103 {G : GG} {K46 : Int32 → Int32 → Int32 → Int32 → MM → Prop} {Q : Int32 → MM → Prop} (hK46 : ∀ (x1 : Int32) (x3 : Int32) (x5 : Int32) (x6 : Int32) (M : MM), K46 x1 x3 x5 x6 M → A5_lots G Q 46 [(0, .ref (gA G 62)), (1, .int x1), (3, .int x3), (5, .int x5), (6, .int x6)] [] M) : ∀ (x1 : Int32) (x3 : Int32) (x5 : Int32) (x6 : Int32) (M : MM), D5_lots_c103 K46 Q x1 x3 x5 x6 M → A5_lots G Q 103 [(0, .ref (gA G 62)), (1, .int x1), (3, .int x3), (5, .int x5), (6, .int x6)] [] M := by
  intro x1 x3 x5 x6 M h
  unfold D5_lots_c103 at h
  refine a_aload_n dX5_lots_103 0 rfl ?_
  refine a_bipush (v := 12) dX5_lots_104 (by decide) ?_
  refine a_callVv (n := 1) [.int _] (C := RX5) (ci := 3) (qc := (RX5, TX5, 40)) (fsF := fl3 G _) ob_62.1 (fun _ => en3 ob_62.2) rfl rfl dX5_lots_106 (s5_goHours h) (gV tbc kM_RX5_200_X5_goHours kI_X5_goHours kS_X5_goHours kN_RX5 kC_X5_goHours) rfl (by decide +kernel) ⟨Nat.le_of_ble_eq_true rfl, Nat.le_of_ble_eq_true rfl⟩ rfl rfl (Nat.le_of_ble_eq_true rfl) ⟨Nat.le_refl 0, Nat.le_refl 0⟩ (fun M h => ?_)
  refine a_iload dX5_lots_109 3 rfl ?_
  refine a_iload_n dX5_lots_111 2 rfl ?_
  refine a_if_ne (tgt := 125) dX5_lots_112 (by decide) (fun c => ?_) (fun c => ?_)
  · have h := h.1 c
    refine a_aload_n dX5_lots_125 0 rfl ?_
    refine a_get3 dX5_lots_126 6 (by decide) (tbc _ kF_RX5_131) (fun w h => tbc _ (uW3 w h)) rfl ob_62 rfl ?_
    refine a_sub [0, 1, 2, 4] rfl ?_
    exact s5_lots_c129 hK46 _ _ _ _ _ _ h
  · have h := h.2 c
    refine a_aload_n dX5_lots_115 0 rfl ?_
    refine a_callVi (n := 0) [] (C := RX5) (ci := 3) (qc := (RX5, TX5, 40)) (fsF := fl3 G _) ob_62.1 (fun _ => en3 ob_62.2) rfl rfl dX5_lots_116 (s5_standing h) (gV tbc kM_RX5_251_X5_standing kI_X5_standing kS_X5_standing kN_RX5 kC_X5_standing) rfl (by decide +kernel) ⟨Nat.le_of_ble_eq_true rfl, Nat.le_of_ble_eq_true rfl⟩ rfl rfl (Nat.le_of_ble_eq_true rfl) ⟨Nat.le_refl 0, Nat.le_refl 0⟩ (fun r M h => ?_)
    refine a_callSi (n := 1) [.int _] dX5_lots_119 (s5_onesOf h) (gS tbc kM_RX5_254_X5_onesOf kT_X5_onesOf kN_RX5 kC_X5_onesOf) rfl (by decide +kernel) ⟨Nat.le_of_ble_eq_true rfl, Nat.le_of_ble_eq_true rfl⟩ rfl rfl (Nat.le_of_ble_eq_true rfl) ⟨Nat.le_refl 0, Nat.le_refl 0⟩ (fun r M h => ?_)
    refine a_goto (tgt := 129) dX5_lots_122 (by decide) ?_
    refine a_sub [0, 1, 2, 4] rfl ?_
    exact s5_lots_c129 hK46 _ _ _ _ _ _ h
set_option maxHeartbeats 4000000 in
set_option maxRecDepth 100000 in
theorem s5_lots_c55 {G : GG} {K46 : Int32 → Int32 → Int32 → Int32 → MM → Prop} {Q : Int32 → MM → Prop} (hK46 : ∀ (x1 : Int32) (x3 : Int32) (x5 : Int32) (x6 : Int32) (M : MM), K46 x1 x3 x5 x6 M → A5_lots G Q 46 [(0, .ref (gA G 62)), (1, .int x1), (3, .int x3), (5, .int x5), (6, .int x6)] [] M) : ∀ (n : Nat) (x1 : Int32) (x3 : Int32) (x5 : Int32) (x6 : Int32) (x7 : Int32) (M : MM), D5_lots_c55 K46 Q n x1 x3 x5 x6 x7 M → A5_lots G Q 55 [(0, .ref (gA G 62)), (1, .int x1), (3, .int x3), (5, .int x5), (6, .int x6), (7, .int x7)] [] M := by
  intro n
  induction n with
  | zero => intro x1 x3 x5 x6 x7 M h; exact h.elim
  | succ n ih =>
    intro x1 x3 x5 x6 x7 M h
    unfold D5_lots_c55 at h
    refine a_iload dX5_lots_55 5 rfl ?_
    refine a_aload_n dX5_lots_57 0 rfl ?_
    refine a_get3 dX5_lots_58 0 (by decide) (tbc _ kF_RX5_77) (fun w h => tbc _ (uW3 w h)) rfl ob_62 rfl ?_
    refine a_icmp_ge (tgt := 103) dX5_lots_61 (by decide) (fun c => ?_) (fun c => ?_)
    · have h := h.1 c
      refine a_sub [0, 1, 2, 3, 4] rfl ?_
      exact s5_lots_c103 hK46 _ _ _ _ _ h
    · have h := h.2 c
      refine a_aload_n dX5_lots_64 0 rfl ?_
      refine a_get3 dX5_lots_65 4 (by decide) (tbc _ kF_RX5_19) (fun w h => tbc _ (uW3 w h)) rfl ob_62 rfl ?_
      refine a_iload dX5_lots_68 5 rfl ?_
      refine a_aload_n dX5_lots_70 0 rfl ?_
      refine a_get3 dX5_lots_71 5 (by decide) (tbc _ kF_RX5_22) (fun w h => tbc _ (uW3 w h)) rfl ob_62 rfl ?_
      refine a_iload dX5_lots_74 5 rfl ?_
      refine a_iald dX5_lots_76 h.1 ?_
      have h := h.2
      refine a_if_ne (tgt := 89) dX5_lots_77 (by decide) (fun c => ?_) (fun c => ?_)
      · have h := h.1 c
        refine a_aload_n dX5_lots_89 0 rfl ?_
        refine a_get3 dX5_lots_90 4 (by decide) (tbc _ kF_RX5_19) (fun w h => tbc _ (uW3 w h)) rfl ob_62 rfl ?_
        refine a_iload dX5_lots_93 5 rfl ?_
        refine a_iald dX5_lots_95 h.1 ?_
        have h := h.2
        refine a_sub [0, 1, 2, 3, 4, 5] rfl ?_
        exact s5_lots_c96 ih hK46 _ _ _ _ _ _ _ _ _ h
      · have h := h.2 c
        refine a_aload_n dX5_lots_80 0 rfl ?_
        refine a_bipush (v := 6) dX5_lots_81 (by decide) ?_
        refine a_callVi (n := 1) [.int _] (C := RX5) (ci := 3) (qc := (RX5, TX5, 40)) (fsF := fl3 G _) ob_62.1 (fun _ => en3 ob_62.2) rfl rfl dX5_lots_83 (s5_drawBelow h) (gV tbc kM_RX5_338_X5_drawBelow kI_X5_drawBelow kS_X5_drawBelow kN_RX5 kC_X5_drawBelow) rfl (by decide +kernel) ⟨Nat.le_of_ble_eq_true rfl, Nat.le_of_ble_eq_true rfl⟩ rfl rfl (Nat.le_of_ble_eq_true rfl) ⟨Nat.le_refl 0, Nat.le_refl 0⟩ (fun r M h => ?_)
        refine a_goto (tgt := 96) dX5_lots_86 (by decide) ?_
        refine a_sub [0, 1, 2, 3, 4, 5] rfl ?_
        exact s5_lots_c96 ih hK46 _ _ _ _ _ _ _ _ _ h
set_option maxHeartbeats 4000000 in
set_option maxRecDepth 100000 in
theorem s5_lots_c46 {G : GG} {Q : Int32 → MM → Prop} : ∀ (n : Nat) (x1 : Int32) (x3 : Int32) (x5 : Int32) (x6 : Int32) (M : MM), D5_lots_c46 Q n x1 x3 x5 x6 M → A5_lots G Q 46 [(0, .ref (gA G 62)), (1, .int x1), (3, .int x3), (5, .int x5), (6, .int x6)] [] M := by
  intro n
  induction n with
  | zero => intro x1 x3 x5 x6 M h; exact h.elim
  | succ n ih =>
    intro x1 x3 x5 x6 M h
    unfold D5_lots_c46 at h
    refine a_iload dX5_lots_46 4 rfl ?_
    refine a_iload_n dX5_lots_48 1 rfl ?_
    refine a_icmp_ge (tgt := 142) dX5_lots_49 (by decide) (fun c => ?_) (fun c => ?_)
    · have h := h.1 c
      refine a_iload dX5_lots_142 3 rfl ?_
      exact a_iret dX5_lots_144 ⟨_, rfl, h⟩
    · have h := h.2 c
      refine a_iconst (v := 0) dX5_lots_52 (by decide) ?_
      refine a_istore (i := 7) (L' := [(7, .int _), (0, .ref _), (1, .int _), (3, .int _), (5, .int _), (6, .int _)]) dX5_lots_53 (by decide) rfl ?_
      refine a_sub [1, 2, 3, 4, 5, 0] rfl ?_
      exact s5_lots_c55 ih _ _ _ _ _ _ _ h
set_option maxHeartbeats 4000000 in
set_option maxRecDepth 100000 in
theorem s5_lots {G : GG} {x1 : Int32} {x2 : Int32} {x3 : Int32} {M : MM} {Q : Int32 → MM → Prop} (h : D5_lots x1 x2 x3 M Q) : CM G yX5_lots (WY yX5_lots cX5_lots 8 (some .int)) 5 111 [.ref (gA G 62), .int x1, .int x2, .int x3] M (qI Q) := by
  refine CM.of (cc := cX5_lots) (nL := 8) (ret := (some .int)) (own := RX5) (by decide +kernel) rfl rfl (Nat.le_of_ble_eq_true rfl) ?_
  show A5_lots G Q 0 [(0, .ref (gA G 62)), (1, .int x1), (2, .int x2), (3, .int x3)] [] M
  unfold D5_lots at h
  refine a_aload_n dX5_lots_0 0 rfl ?_
  refine a_iconst (v := 0) dX5_lots_1 (by decide) ?_
  refine a_put3 dX5_lots_2 9 (by decide) (tbc _ kF_RX5_73) (fun w h => tbc _ (uW3 w h)) rfl rfl rfl rfl ob_62 fs3_9 ?_
  refine a_iload_n dX5_lots_5 1 rfl ?_
  refine a_iconst (v := 1) dX5_lots_6 (by decide) ?_
  refine a_bipush (v := 20) dX5_lots_7 (by decide) ?_
  refine a_callSi (n := 3) [.int _, .int _, .int _] dX5_lots_9 (s5_wrongNumber h) (gS tbc kM_RX5_244_X5_wrongNumber kT_X5_wrongNumber kN_RX5 kC_X5_wrongNumber) rfl (by decide +kernel) ⟨Nat.le_of_ble_eq_true rfl, Nat.le_of_ble_eq_true rfl⟩ rfl rfl (Nat.le_of_ble_eq_true rfl) ⟨Nat.le_refl 0, Nat.le_refl 0⟩ (fun r M h => ?_)
  refine a_iload_n dX5_lots_12 3 rfl ?_
  refine a_iconst (v := 1) dX5_lots_13 (by decide) ?_
  refine a_callSi (n := 3) [.int _, .int _, .int _] dX5_lots_14 (s5_wrongBit h) (gS tbc kM_RX5_260_X5_wrongBit kT_X5_wrongBit kN_RX5 kC_X5_wrongBit) rfl (by decide +kernel) ⟨Nat.le_of_ble_eq_true rfl, Nat.le_of_ble_eq_true rfl⟩ rfl rfl (Nat.le_of_ble_eq_true rfl) ⟨Nat.le_refl 0, Nat.le_refl 0⟩ (fun r M h => ?_)
  refine a_istore (i := 4) (L' := [(4, .int _), (0, .ref _), (1, .int _), (2, .int _), (3, .int _)]) dX5_lots_17 (by decide) rfl ?_
  refine a_iload dX5_lots_19 0 rfl ?_
  refine a_if_ge (tgt := 31) dX5_lots_21 (by decide) (fun c => ?_) (fun c => ?_)
  · have h := h.1 c
    refine a_aload_n dX5_lots_31 1 rfl ?_
    refine a_iload_n dX5_lots_32 3 rfl ?_
    refine a_put3 dX5_lots_33 39 (by decide) (tbc _ kF_RX5_332) (fun w h => tbc _ (uW3 w h)) rfl rfl rfl rfl ob_62 fs3_39 ?_
    refine a_iconst (v := 0) dX5_lots_36 (by decide) ?_
    refine a_istore (i := 5) (L' := [(5, .int _), (4, .int _), (0, .ref _), (1, .int _), (2, .int _), (3, .int _)]) dX5_lots_37 (by decide) rfl ?_
    refine a_aload_n dX5_lots_39 2 rfl ?_
    refine a_callVv (n := 0) [] (C := RX5) (ci := 3) (qc := (RX5, TX5, 40)) (fsF := fl3 G _) ob_62.1 (fun _ => en3 ob_62.2) rfl rfl dX5_lots_40 (s5_think h) (gV tbc kM_RX5_209_X5_think kI_X5_think kS_X5_think kN_RX5 kC_X5_think) rfl (by decide +kernel) ⟨Nat.le_of_ble_eq_true rfl, Nat.le_of_ble_eq_true rfl⟩ rfl rfl (Nat.le_of_ble_eq_true rfl) ⟨Nat.le_refl 0, Nat.le_refl 0⟩ (fun M h => ?_)
    refine a_iconst (v := 0) dX5_lots_43 (by decide) ?_
    refine a_istore (i := 6) (L' := [(6, .int _), (5, .int _), (4, .int _), (0, .ref _), (1, .int _), (2, .int _), (3, .int _)]) dX5_lots_44 (by decide) rfl ?_
    refine a_sub [3, 4, 6, 1, 0] rfl ?_
    exact s5_lots_c46 _ _ _ _ _ _ h
  · have h := h.2 c
    refine a_aload_n dX5_lots_24 1 rfl ?_
    refine a_iload dX5_lots_25 0 rfl ?_
    refine a_callVi (n := 1) [.int _] (C := RX5) (ci := 3) (qc := (RX5, TX5, 40)) (fsF := fl3 G _) ob_62.1 (fun _ => en3 ob_62.2) rfl rfl dX5_lots_27 (s5_refuse h) (gV tbc kM_RX5_149_X5_refuse kI_X5_refuse kS_X5_refuse kN_RX5 kC_X5_refuse) rfl (by decide +kernel) ⟨Nat.le_of_ble_eq_true rfl, Nat.le_of_ble_eq_true rfl⟩ rfl rfl (Nat.le_of_ble_eq_true rfl) ⟨Nat.le_refl 0, Nat.le_refl 0⟩ (fun r M h => ?_)
    exact a_iret dX5_lots_30 ⟨_, rfl, h⟩

/-! X5_low -/
theorem dX5_low_0 : decode cX5_low 0 = .ok (.aload_n 0, 1) := by decide +kernel
theorem dX5_low_1 : decode cX5_low 1 = .ok (.iconst 0, 1) := by decide +kernel
theorem dX5_low_2 : decode cX5_low 2 = .ok (.putfield 73, 3) := by decide +kernel
theorem dX5_low_5 : decode cX5_low 5 = .ok (.iconst 0, 1) := by decide +kernel
theorem dX5_low_6 : decode cX5_low 6 = .ok (.istore_n 1, 1) := by decide +kernel
theorem dX5_low_7 : decode cX5_low 7 = .ok (.aload_n 0, 1) := by decide +kernel
theorem dX5_low_8 : decode cX5_low 8 = .ok (.getfield 114, 3) := by decide +kernel
theorem dX5_low_11 : decode cX5_low 11 = .ok (.iload_n 1, 1) := by decide +kernel
theorem dX5_low_12 : decode cX5_low 12 = .ok (.iadd, 1) := by decide +kernel
theorem dX5_low_13 : decode cX5_low 13 = .ok (.invokestatic 117, 3) := by decide +kernel
theorem dX5_low_16 : decode cX5_low 16 = .ok (.ifCond .le 9, 3) := by decide +kernel
theorem dX5_low_19 : decode cX5_low 19 = .ok (.iinc 1 1, 3) := by decide +kernel
theorem dX5_low_22 : decode cX5_low 22 = .ok (.goto (-15), 3) := by decide +kernel
theorem dX5_low_25 : decode cX5_low 25 = .ok (.iload_n 1, 1) := by decide +kernel
theorem dX5_low_26 : decode cX5_low 26 = .ok (.ireturn, 1) := by decide +kernel
abbrev A5_low (G : GG) (Q : Int32 → MM → Prop) := AW G E0 (MZ G (qI Q)) (WY yX5_low cX5_low 2 (some .int)) RX5 cX5_low 2 (some .int) ({ frames := 2, cells := 0, slots := 0, locals := 42 } : Room) 0 0
def D5_low_c7 (Q : Int32 → MM → Prop) : Nat → Int32 → MM → Prop
  | 0, _, _ => False
  | n + 1, x1, M => D5_levelAt ((M 62 8) + x1) M (fun (r2 : Int32) (M3 : MM) => ((r2 ≤ 0 → Q x1 M3) ∧ (¬ r2 ≤ 0 → (fun v4 : Int32 => D5_low_c7 Q n v4 M3) (x1 + (1 : Int32)))))
def D5_low (M : MM) (Q : Int32 → MM → Prop) : Prop := (fun M1 : MM => D5_low_c7 Q FU (0 : Int32) M1) (up M 62 9 (0 : Int32))
set_option maxHeartbeats 4000000 in
set_option maxRecDepth 100000 in
theorem s5_low_c7 {G : GG} {Q : Int32 → MM → Prop} : ∀ (n : Nat) (x1 : Int32) (M : MM), D5_low_c7 Q n x1 M → A5_low G Q 7 [(0, .ref (gA G 62)), (1, .int x1)] [] M := by
  intro n
  induction n with
  | zero => intro x1 M h; exact h.elim
  | succ n ih =>
    intro x1 M h
    unfold D5_low_c7 at h
    refine a_aload_n dX5_low_7 0 rfl ?_
    refine a_get3 dX5_low_8 8 (by decide) (tbc _ kF_RX5_114) (fun w h => tbc _ (uW3 w h)) rfl ob_62 rfl ?_
    refine a_iload_n dX5_low_11 1 rfl ?_
    refine a_iadd dX5_low_12 ?_
    refine a_callSi (n := 1) [.int _] dX5_low_13 (s5_levelAt h) (gS tbc kM_RX5_117_X5_levelAt kT_X5_levelAt kN_RX5 kC_X5_levelAt) rfl (by decide +kernel) ⟨Nat.le_of_ble_eq_true rfl, Nat.le_of_ble_eq_true rfl⟩ rfl rfl (Nat.le_of_ble_eq_true rfl) ⟨Nat.le_refl 0, Nat.le_refl 0⟩ (fun r M h => ?_)
    refine a_if_le (tgt := 25) dX5_low_16 (by decide) (fun c => ?_) (fun c => ?_)
    · have h := h.1 c
      refine a_iload_n dX5_low_25 1 rfl ?_
      exact a_iret dX5_low_26 ⟨_, rfl, h⟩
    · have h := h.2 c
      refine a_iinc (L' := [(1, .int _), (0, .ref _)]) dX5_low_19 1 rfl (show _ + Int32.ofInt (1 : Int) = _ + (1 : Int32) from rfl) (by decide) rfl ?_
      refine a_goto (tgt := 7) dX5_low_22 (by decide) ?_
      refine a_sub [1, 0] rfl ?_
      exact ih _ _ h
set_option maxHeartbeats 4000000 in
set_option maxRecDepth 100000 in
theorem s5_low {G : GG} {M : MM} {Q : Int32 → MM → Prop} (h : D5_low M Q) : CM G yX5_low (WY yX5_low cX5_low 2 (some .int)) 2 42 [.ref (gA G 62)] M (qI Q) := by
  refine CM.of (cc := cX5_low) (nL := 2) (ret := (some .int)) (own := RX5) (by decide +kernel) rfl rfl (Nat.le_of_ble_eq_true rfl) ?_
  show A5_low G Q 0 [(0, .ref (gA G 62))] [] M
  unfold D5_low at h
  refine a_aload_n dX5_low_0 0 rfl ?_
  refine a_iconst (v := 0) dX5_low_1 (by decide) ?_
  refine a_put3 dX5_low_2 9 (by decide) (tbc _ kF_RX5_73) (fun w h => tbc _ (uW3 w h)) rfl rfl rfl rfl ob_62 fs3_9 ?_
  refine a_iconst (v := 0) dX5_low_5 (by decide) ?_
  refine a_istore_n (i := 1) (L' := [(1, .int _), (0, .ref _)]) dX5_low_6 rfl (by decide) rfl ?_
  refine a_sub [1, 0] rfl ?_
  exact s5_low_c7 _ _ _ h

/-! X5_partOf -/
theorem dX5_partOf_0 : decode cX5_partOf 0 = .ok (.lload_n 0, 1) := by decide +kernel
theorem dX5_partOf_1 : decode cX5_partOf 1 = .ok (.lconst 0, 1) := by decide +kernel
theorem dX5_partOf_2 : decode cX5_partOf 2 = .ok (.lcmp, 1) := by decide +kernel
theorem dX5_partOf_3 : decode cX5_partOf 3 = .ok (.ifCond .ne 7, 3) := by decide +kernel
theorem dX5_partOf_6 : decode cX5_partOf 6 = .ok (.iload 4, 2) := by decide +kernel
theorem dX5_partOf_8 : decode cX5_partOf 8 = .ok (.i2l, 1) := by decide +kernel
theorem dX5_partOf_9 : decode cX5_partOf 9 = .ok (.lreturn, 1) := by decide +kernel
theorem dX5_partOf_10 : decode cX5_partOf 10 = .ok (.lload_n 0, 1) := by decide +kernel
theorem dX5_partOf_11 : decode cX5_partOf 11 = .ok (.lload_n 2, 1) := by decide +kernel
theorem dX5_partOf_12 : decode cX5_partOf 12 = .ok (.invokestatic 307, 3) := by decide +kernel
theorem dX5_partOf_15 : decode cX5_partOf 15 = .ok (.lstore 5, 2) := by decide +kernel
theorem dX5_partOf_17 : decode cX5_partOf 17 = .ok (.iload 4, 2) := by decide +kernel
theorem dX5_partOf_19 : decode cX5_partOf 19 = .ok (.ifCond .ne 10, 3) := by decide +kernel
theorem dX5_partOf_22 : decode cX5_partOf 22 = .ok (.lload_n 0, 1) := by decide +kernel
theorem dX5_partOf_23 : decode cX5_partOf 23 = .ok (.lload 5, 2) := by decide +kernel
theorem dX5_partOf_25 : decode cX5_partOf 25 = .ok (.ldiv, 1) := by decide +kernel
theorem dX5_partOf_26 : decode cX5_partOf 26 = .ok (.goto 7, 3) := by decide +kernel
theorem dX5_partOf_29 : decode cX5_partOf 29 = .ok (.lload_n 2, 1) := by decide +kernel
theorem dX5_partOf_30 : decode cX5_partOf 30 = .ok (.lload 5, 2) := by decide +kernel
theorem dX5_partOf_32 : decode cX5_partOf 32 = .ok (.ldiv, 1) := by decide +kernel
theorem dX5_partOf_33 : decode cX5_partOf 33 = .ok (.lreturn, 1) := by decide +kernel
abbrev A5_partOf (G : GG) (Q : Int64 → MM → Prop) := AW G E0 (MZ G (qL Q)) (WY yX5_partOf cX5_partOf 7 (some .long)) RX5 cX5_partOf 7 (some .long) ({ frames := 1, cells := 0, slots := 0, locals := 29 } : Room) 0 0
def D5_partOf (x0 : Int64) (x2 : Int64) (x4 : Int32) (M : MM) (Q : Int64 → MM → Prop) : Prop := (((lg_cmp x0 (0 : Int64)) ≠ 0 → D5_divisor x0 x2 M (fun (r1 : Int64) (M2 : MM) => ((x4 ≠ 0 → ¬ r1 = 0 ∧ Q (x2 / r1) M2) ∧ (x4 = 0 → ¬ r1 = 0 ∧ Q (x0 / r1) M2)))) ∧ ((lg_cmp x0 (0 : Int64)) = 0 → Q x4.toInt64 M))
set_option maxHeartbeats 4000000 in
set_option maxRecDepth 100000 in
theorem s5_partOf {G : GG} {x0 : Int64} {x2 : Int64} {x4 : Int32} {M : MM} {Q : Int64 → MM → Prop} (h : D5_partOf x0 x2 x4 M Q) : CM G yX5_partOf (WY yX5_partOf cX5_partOf 7 (some .long)) 1 29 [.long x0, .long x2, .int x4] M (qL Q) := by
  refine CM.of (cc := cX5_partOf) (nL := 7) (ret := (some .long)) (own := RX5) (by decide +kernel) rfl rfl (Nat.le_of_ble_eq_true rfl) ?_
  show A5_partOf G Q 0 [(0, .long x0), (2, .long x2), (4, .int x4)] [] M
  unfold D5_partOf at h
  refine a_lload_n dX5_partOf_0 0 rfl ?_
  refine a_lconst (v := 0) dX5_partOf_1 (by decide) ?_
  refine a_lcmp dX5_partOf_2 ?_
  refine a_if_ne (tgt := 10) dX5_partOf_3 (by decide) (fun c => ?_) (fun c => ?_)
  · have h := h.1 c
    refine a_lload_n dX5_partOf_10 0 rfl ?_
    refine a_lload_n dX5_partOf_11 1 rfl ?_
    refine a_callSl (n := 2) [.long _, .long _] dX5_partOf_12 (s5_divisor h) (gS tbc kM_RX5_307_X5_divisor kT_X5_divisor kN_RX5 kC_X5_divisor) rfl (by decide +kernel) ⟨Nat.le_of_ble_eq_true rfl, Nat.le_of_ble_eq_true rfl⟩ rfl rfl (Nat.le_of_ble_eq_true rfl) ⟨Nat.le_refl 0, Nat.le_refl 0⟩ (fun r M h => ?_)
    refine a_lstore (i := 5) (L' := [(5, .long _), (0, .long _), (2, .long _), (4, .int _)]) dX5_partOf_15 (by decide) rfl ?_
    refine a_iload dX5_partOf_17 3 rfl ?_
    refine a_if_ne (tgt := 29) dX5_partOf_19 (by decide) (fun c => ?_) (fun c => ?_)
    · have h := h.1 c
      refine a_lload_n dX5_partOf_29 2 rfl ?_
      refine a_lload dX5_partOf_30 0 rfl ?_
      refine a_ldiv dX5_partOf_32 h.1 ?_
      have h := h.2
      exact a_lret dX5_partOf_33 ⟨_, rfl, h⟩
    · have h := h.2 c
      refine a_lload_n dX5_partOf_22 1 rfl ?_
      refine a_lload dX5_partOf_23 0 rfl ?_
      refine a_ldiv dX5_partOf_25 h.1 ?_
      have h := h.2
      refine a_goto (tgt := 33) dX5_partOf_26 (by decide) ?_
      exact a_lret dX5_partOf_33 ⟨_, rfl, h⟩
  · have h := h.2 c
    refine a_iload dX5_partOf_6 2 rfl ?_
    refine a_i2l dX5_partOf_8 ?_
    exact a_lret dX5_partOf_9 ⟨_, rfl, h⟩

/-! X5_mean -/
theorem dX5_mean_0 : decode cX5_mean 0 = .ok (.aload_n 0, 1) := by decide +kernel
theorem dX5_mean_1 : decode cX5_mean 1 = .ok (.iconst 0, 1) := by decide +kernel
theorem dX5_mean_2 : decode cX5_mean 2 = .ok (.putfield 73, 3) := by decide +kernel
theorem dX5_mean_5 : decode cX5_mean 5 = .ok (.aload_n 0, 1) := by decide +kernel
theorem dX5_mean_6 : decode cX5_mean 6 = .ok (.invokevirtual 251, 3) := by decide +kernel
theorem dX5_mean_9 : decode cX5_mean 9 = .ok (.invokestatic 254, 3) := by decide +kernel
theorem dX5_mean_12 : decode cX5_mean 12 = .ok (.istore_n 2, 1) := by decide +kernel
theorem dX5_mean_13 : decode cX5_mean 13 = .ok (.iload_n 1, 1) := by decide +kernel
theorem dX5_mean_14 : decode cX5_mean 14 = .ok (.i2l, 1) := by decide +kernel
theorem dX5_mean_15 : decode cX5_mean 15 = .ok (.lconst 0, 1) := by decide +kernel
theorem dX5_mean_16 : decode cX5_mean 16 = .ok (.lconst 1, 1) := by decide +kernel
theorem dX5_mean_17 : decode cX5_mean 17 = .ok (.invokestatic 80, 3) := by decide +kernel
theorem dX5_mean_20 : decode cX5_mean 20 = .ok (.ifCond .eq 21, 3) := by decide +kernel
theorem dX5_mean_23 : decode cX5_mean 23 = .ok (.aload_n 0, 1) := by decide +kernel
theorem dX5_mean_24 : decode cX5_mean 24 = .ok (.aload_n 0, 1) := by decide +kernel
theorem dX5_mean_25 : decode cX5_mean 25 = .ok (.invokevirtual 251, 3) := by decide +kernel
theorem dX5_mean_28 : decode cX5_mean 28 = .ok (.invokevirtual 292, 3) := by decide +kernel
theorem dX5_mean_31 : decode cX5_mean 31 = .ok (.i2l, 1) := by decide +kernel
theorem dX5_mean_32 : decode cX5_mean 32 = .ok (.iload_n 2, 1) := by decide +kernel
theorem dX5_mean_33 : decode cX5_mean 33 = .ok (.i2l, 1) := by decide +kernel
theorem dX5_mean_34 : decode cX5_mean 34 = .ok (.iload_n 1, 1) := by decide +kernel
theorem dX5_mean_35 : decode cX5_mean 35 = .ok (.invokestatic 313, 3) := by decide +kernel
theorem dX5_mean_38 : decode cX5_mean 38 = .ok (.goto 14, 3) := by decide +kernel
theorem dX5_mean_41 : decode cX5_mean 41 = .ok (.ldc2_w 311, 3) := by decide +kernel
theorem dX5_mean_44 : decode cX5_mean 44 = .ok (.aload_n 0, 1) := by decide +kernel
theorem dX5_mean_45 : decode cX5_mean 45 = .ok (.bipush (-2), 2) := by decide +kernel
theorem dX5_mean_47 : decode cX5_mean 47 = .ok (.invokevirtual 149, 3) := by decide +kernel
theorem dX5_mean_50 : decode cX5_mean 50 = .ok (.i2l, 1) := by decide +kernel
theorem dX5_mean_51 : decode cX5_mean 51 = .ok (.lsub, 1) := by decide +kernel
theorem dX5_mean_52 : decode cX5_mean 52 = .ok (.lreturn, 1) := by decide +kernel
abbrev A5_mean (G : GG) (Q : Int64 → MM → Prop) := AW G E0 (MZ G (qL Q)) (WY yX5_mean cX5_mean 3 (some .long)) RX5 cX5_mean 3 (some .long) ({ frames := 2, cells := 0, slots := 0, locals := 55 } : Room) 0 0
def D5_mean (x1 : Int32) (M : MM) (Q : Int64 → MM → Prop) : Prop := (fun M1 : MM => D5_standing M1 (fun (r2 : Int32) (M3 : MM) => D5_onesOf r2 M3 (fun (r4 : Int32) (M5 : MM) => D5_in x1.toInt64 (0 : Int64) (1 : Int64) M5 (fun (r6 : Int32) (M7 : MM) => ((r6 = 0 → D5_refuse (-2 : Int32) M7 (fun (r8 : Int32) (M9 : MM) => Q ((4000000000000000000 : Int64) - r8.toInt64) M9)) ∧ (¬ r6 = 0 → D5_standing M7 (fun (r10 : Int32) (M11 : MM) => D5_ratesIn r10 M11 (fun (r12 : Int32) (M13 : MM) => D5_partOf r12.toInt64 r4.toInt64 x1 M13 (fun (r14 : Int64) (M15 : MM) => Q r14 M15))))))))) (up M 62 9 (0 : Int32))
set_option maxHeartbeats 4000000 in
set_option maxRecDepth 100000 in
theorem s5_mean {G : GG} {x1 : Int32} {M : MM} {Q : Int64 → MM → Prop} (h : D5_mean x1 M Q) : CM G yX5_mean (WY yX5_mean cX5_mean 3 (some .long)) 2 55 [.ref (gA G 62), .int x1] M (qL Q) := by
  refine CM.of (cc := cX5_mean) (nL := 3) (ret := (some .long)) (own := RX5) (by decide +kernel) rfl rfl (Nat.le_of_ble_eq_true rfl) ?_
  show A5_mean G Q 0 [(0, .ref (gA G 62)), (1, .int x1)] [] M
  unfold D5_mean at h
  refine a_aload_n dX5_mean_0 0 rfl ?_
  refine a_iconst (v := 0) dX5_mean_1 (by decide) ?_
  refine a_put3 dX5_mean_2 9 (by decide) (tbc _ kF_RX5_73) (fun w h => tbc _ (uW3 w h)) rfl rfl rfl rfl ob_62 fs3_9 ?_
  refine a_aload_n dX5_mean_5 0 rfl ?_
  refine a_callVi (n := 0) [] (C := RX5) (ci := 3) (qc := (RX5, TX5, 40)) (fsF := fl3 G _) ob_62.1 (fun _ => en3 ob_62.2) rfl rfl dX5_mean_6 (s5_standing h) (gV tbc kM_RX5_251_X5_standing kI_X5_standing kS_X5_standing kN_RX5 kC_X5_standing) rfl (by decide +kernel) ⟨Nat.le_of_ble_eq_true rfl, Nat.le_of_ble_eq_true rfl⟩ rfl rfl (Nat.le_of_ble_eq_true rfl) ⟨Nat.le_refl 0, Nat.le_refl 0⟩ (fun r M h => ?_)
  refine a_callSi (n := 1) [.int _] dX5_mean_9 (s5_onesOf h) (gS tbc kM_RX5_254_X5_onesOf kT_X5_onesOf kN_RX5 kC_X5_onesOf) rfl (by decide +kernel) ⟨Nat.le_of_ble_eq_true rfl, Nat.le_of_ble_eq_true rfl⟩ rfl rfl (Nat.le_of_ble_eq_true rfl) ⟨Nat.le_refl 0, Nat.le_refl 0⟩ (fun r M h => ?_)
  refine a_istore_n (i := 2) (L' := [(2, .int _), (0, .ref _), (1, .int _)]) dX5_mean_12 rfl (by decide) rfl ?_
  refine a_iload_n dX5_mean_13 2 rfl ?_
  refine a_i2l dX5_mean_14 ?_
  refine a_lconst (v := 0) dX5_mean_15 (by decide) ?_
  refine a_lconst (v := 1) dX5_mean_16 (by decide) ?_
  refine a_callSi (n := 3) [.long _, .long _, .long _] dX5_mean_17 (s5_in h) (gS tbc kM_RX5_80_X5_in kT_X5_in kN_RX5 kC_X5_in) rfl (by decide +kernel) ⟨Nat.le_of_ble_eq_true rfl, Nat.le_of_ble_eq_true rfl⟩ rfl rfl (Nat.le_of_ble_eq_true rfl) ⟨Nat.le_refl 0, Nat.le_refl 0⟩ (fun r M h => ?_)
  refine a_if_eq (tgt := 41) dX5_mean_20 (by decide) (fun c => ?_) (fun c => ?_)
  · have h := h.1 c
    refine a_ldc2 dX5_mean_41 (tbc _ kL_RX5_311) ?_
    refine a_aload_n dX5_mean_44 1 rfl ?_
    refine a_bipush (v := -2) dX5_mean_45 (by decide) ?_
    refine a_callVi (n := 1) [.int _] (C := RX5) (ci := 3) (qc := (RX5, TX5, 40)) (fsF := fl3 G _) ob_62.1 (fun _ => en3 ob_62.2) rfl rfl dX5_mean_47 (s5_refuse h) (gV tbc kM_RX5_149_X5_refuse kI_X5_refuse kS_X5_refuse kN_RX5 kC_X5_refuse) rfl (by decide +kernel) ⟨Nat.le_of_ble_eq_true rfl, Nat.le_of_ble_eq_true rfl⟩ rfl rfl (Nat.le_of_ble_eq_true rfl) ⟨Nat.le_refl 0, Nat.le_refl 0⟩ (fun r M h => ?_)
    refine a_i2l dX5_mean_50 ?_
    refine a_lsub dX5_mean_51 ?_
    exact a_lret dX5_mean_52 ⟨_, rfl, h⟩
  · have h := h.2 c
    refine a_aload_n dX5_mean_23 1 rfl ?_
    refine a_aload_n dX5_mean_24 1 rfl ?_
    refine a_callVi (n := 0) [] (C := RX5) (ci := 3) (qc := (RX5, TX5, 40)) (fsF := fl3 G _) ob_62.1 (fun _ => en3 ob_62.2) rfl rfl dX5_mean_25 (s5_standing h) (gV tbc kM_RX5_251_X5_standing kI_X5_standing kS_X5_standing kN_RX5 kC_X5_standing) rfl (by decide +kernel) ⟨Nat.le_of_ble_eq_true rfl, Nat.le_of_ble_eq_true rfl⟩ rfl rfl (Nat.le_of_ble_eq_true rfl) ⟨Nat.le_refl 0, Nat.le_refl 0⟩ (fun r M h => ?_)
    refine a_callVi (n := 1) [.int _] (C := RX5) (ci := 3) (qc := (RX5, TX5, 40)) (fsF := fl3 G _) ob_62.1 (fun _ => en3 ob_62.2) rfl rfl dX5_mean_28 (s5_ratesIn h) (gV tbc kM_RX5_292_X5_ratesIn kI_X5_ratesIn kS_X5_ratesIn kN_RX5 kC_X5_ratesIn) rfl (by decide +kernel) ⟨Nat.le_of_ble_eq_true rfl, Nat.le_of_ble_eq_true rfl⟩ rfl rfl (Nat.le_of_ble_eq_true rfl) ⟨Nat.le_refl 0, Nat.le_refl 0⟩ (fun r M h => ?_)
    refine a_i2l dX5_mean_31 ?_
    refine a_iload_n dX5_mean_32 0 rfl ?_
    refine a_i2l dX5_mean_33 ?_
    refine a_iload_n dX5_mean_34 2 rfl ?_
    refine a_callSl (n := 3) [.long _, .long _, .int _] dX5_mean_35 (s5_partOf h) (gS tbc kM_RX5_313_X5_partOf kT_X5_partOf kN_RX5 kC_X5_partOf) rfl (by decide +kernel) ⟨Nat.le_of_ble_eq_true rfl, Nat.le_of_ble_eq_true rfl⟩ rfl rfl (Nat.le_of_ble_eq_true rfl) ⟨Nat.le_refl 0, Nat.le_refl 0⟩ (fun r M h => ?_)
    refine a_goto (tgt := 52) dX5_mean_38 (by decide) ?_
    exact a_lret dX5_mean_52 ⟨_, rfl, h⟩

/-! X5_mended -/
theorem dX5_mended_0 : decode cX5_mended 0 = .ok (.aload_n 0, 1) := by decide +kernel
theorem dX5_mended_1 : decode cX5_mended 1 = .ok (.iconst 0, 1) := by decide +kernel
theorem dX5_mended_2 : decode cX5_mended 2 = .ok (.putfield 73, 3) := by decide +kernel
theorem dX5_mended_5 : decode cX5_mended 5 = .ok (.aload_n 0, 1) := by decide +kernel
theorem dX5_mended_6 : decode cX5_mended 6 = .ok (.iload_n 1, 1) := by decide +kernel
theorem dX5_mended_7 : decode cX5_mended 7 = .ok (.invokevirtual 182, 3) := by decide +kernel
theorem dX5_mended_10 : decode cX5_mended 10 = .ok (.ifCond .eq 13, 3) := by decide +kernel
theorem dX5_mended_13 : decode cX5_mended 13 = .ok (.iload_n 2, 1) := by decide +kernel
theorem dX5_mended_14 : decode cX5_mended 14 = .ok (.iconst 0, 1) := by decide +kernel
theorem dX5_mended_15 : decode cX5_mended 15 = .ok (.bipush 60, 2) := by decide +kernel
theorem dX5_mended_17 : decode cX5_mended 17 = .ok (.invokestatic 244, 3) := by decide +kernel
theorem dX5_mended_20 : decode cX5_mended 20 = .ok (.goto 4, 3) := by decide +kernel
theorem dX5_mended_23 : decode cX5_mended 23 = .ok (.iconst (-1), 1) := by decide +kernel
theorem dX5_mended_24 : decode cX5_mended 24 = .ok (.istore_n 3, 1) := by decide +kernel
theorem dX5_mended_25 : decode cX5_mended 25 = .ok (.iload_n 3, 1) := by decide +kernel
theorem dX5_mended_26 : decode cX5_mended 26 = .ok (.ifCond .ge 13, 3) := by decide +kernel
theorem dX5_mended_29 : decode cX5_mended 29 = .ok (.ldc_w 329, 3) := by decide +kernel
theorem dX5_mended_32 : decode cX5_mended 32 = .ok (.aload_n 0, 1) := by decide +kernel
theorem dX5_mended_33 : decode cX5_mended 33 = .ok (.iload_n 3, 1) := by decide +kernel
theorem dX5_mended_34 : decode cX5_mended 34 = .ok (.invokevirtual 149, 3) := by decide +kernel
theorem dX5_mended_37 : decode cX5_mended 37 = .ok (.isub, 1) := by decide +kernel
theorem dX5_mended_38 : decode cX5_mended 38 = .ok (.ireturn, 1) := by decide +kernel
theorem dX5_mended_39 : decode cX5_mended 39 = .ok (.aload_n 0, 1) := by decide +kernel
theorem dX5_mended_40 : decode cX5_mended 40 = .ok (.invokevirtual 209, 3) := by decide +kernel
theorem dX5_mended_43 : decode cX5_mended 43 = .ok (.aload_n 0, 1) := by decide +kernel
theorem dX5_mended_44 : decode cX5_mended 44 = .ok (.iload_n 2, 1) := by decide +kernel
theorem dX5_mended_45 : decode cX5_mended 45 = .ok (.invokevirtual 200, 3) := by decide +kernel
theorem dX5_mended_48 : decode cX5_mended 48 = .ok (.aload_n 0, 1) := by decide +kernel
theorem dX5_mended_49 : decode cX5_mended 49 = .ok (.getfield 131, 3) := by decide +kernel
theorem dX5_mended_52 : decode cX5_mended 52 = .ok (.istore 4, 2) := by decide +kernel
theorem dX5_mended_54 : decode cX5_mended 54 = .ok (.aload_n 0, 1) := by decide +kernel
theorem dX5_mended_55 : decode cX5_mended 55 = .ok (.invokevirtual 215, 3) := by decide +kernel
theorem dX5_mended_58 : decode cX5_mended 58 = .ok (.aload_n 0, 1) := by decide +kernel
theorem dX5_mended_59 : decode cX5_mended 59 = .ok (.getfield 19, 3) := by decide +kernel
theorem dX5_mended_62 : decode cX5_mended 62 = .ok (.iload_n 1, 1) := by decide +kernel
theorem dX5_mended_63 : decode cX5_mended 63 = .ok (.iconst 0, 1) := by decide +kernel
theorem dX5_mended_64 : decode cX5_mended 64 = .ok (.iastore, 1) := by decide +kernel
theorem dX5_mended_65 : decode cX5_mended 65 = .ok (.aload_n 0, 1) := by decide +kernel
theorem dX5_mended_66 : decode cX5_mended 66 = .ok (.iload_n 2, 1) := by decide +kernel
theorem dX5_mended_67 : decode cX5_mended 67 = .ok (.invokevirtual 200, 3) := by decide +kernel
theorem dX5_mended_70 : decode cX5_mended 70 = .ok (.aload_n 0, 1) := by decide +kernel
theorem dX5_mended_71 : decode cX5_mended 71 = .ok (.getfield 131, 3) := by decide +kernel
theorem dX5_mended_74 : decode cX5_mended 74 = .ok (.istore 5, 2) := by decide +kernel
theorem dX5_mended_76 : decode cX5_mended 76 = .ok (.aload_n 0, 1) := by decide +kernel
theorem dX5_mended_77 : decode cX5_mended 77 = .ok (.invokevirtual 215, 3) := by decide +kernel
theorem dX5_mended_80 : decode cX5_mended 80 = .ok (.iload 5, 2) := by decide +kernel
theorem dX5_mended_82 : decode cX5_mended 82 = .ok (.iload 4, 2) := by decide +kernel
theorem dX5_mended_84 : decode cX5_mended 84 = .ok (.isub, 1) := by decide +kernel
theorem dX5_mended_85 : decode cX5_mended 85 = .ok (.ireturn, 1) := by decide +kernel
abbrev A5_mended (G : GG) (Q : Int32 → MM → Prop) := AW G E0 (MZ G (qI Q)) (WY yX5_mended cX5_mended 6 (some .int)) RX5 cX5_mended 6 (some .int) ({ frames := 5, cells := 0, slots := 0, locals := 111 } : Room) 0 0
def D5_mended_c24 (Q : Int32 → MM → Prop) (x1 : Int32) (x2 : Int32) (s0 : Int32) (M : MM) : Prop := ((0 ≤ s0 → D5_think M (fun (M7 : MM) => D5_goHours x2 M7 (fun (M9 : MM) => (fun v10 : Int32 => D5_again M9 (fun (M12 : MM) => ib 66 x1 ∧ (fun M13 : MM => D5_goHours x2 M13 (fun (M15 : MM) => (fun v16 : Int32 => D5_again M15 (fun (M18 : MM) => Q (v16 - v10) M18)) (M15 62 6))) (up M12 66 (ix x1) (0 : Int32)))) (M9 62 6)))) ∧ (¬ 0 ≤ s0 → D5_refuse s0 M (fun (r19 : Int32) (M20 : MM) => Q ((1000000000 : Int32) - r19) M20)))
def D5_mended (x1 : Int32) (x2 : Int32) (M : MM) (Q : Int32 → MM → Prop) : Prop := (fun M1 : MM => D5_isWork x1 M1 (fun (r2 : Int32) (M3 : MM) => ((r2 = 0 → D5_mended_c24 Q x1 x2 (-1 : Int32) M3) ∧ (¬ r2 = 0 → D5_wrongNumber x2 (0 : Int32) (60 : Int32) M3 (fun (r4 : Int32) (M5 : MM) => D5_mended_c24 Q x1 x2 r4 M5))))) (up M 62 9 (0 : Int32))
set_option maxHeartbeats 4000000 in
set_option maxRecDepth 100000 in
theorem s5_mended_c24 {G : GG} {Q : Int32 → MM → Prop} : ∀ (x1 : Int32) (x2 : Int32) (s0 : Int32) (M : MM), D5_mended_c24 Q x1 x2 s0 M → A5_mended G Q 24 [(0, .ref (gA G 62)), (1, .int x1), (2, .int x2)] [.int s0] M := by
  intro x1 x2 s0 M h
  unfold D5_mended_c24 at h
  refine a_istore_n (i := 3) (L' := [(3, .int _), (0, .ref _), (1, .int _), (2, .int _)]) dX5_mended_24 rfl (by decide) rfl ?_
  refine a_iload_n dX5_mended_25 0 rfl ?_
  refine a_if_ge (tgt := 39) dX5_mended_26 (by decide) (fun c => ?_) (fun c => ?_)
  · have h := h.1 c
    refine a_aload_n dX5_mended_39 1 rfl ?_
    refine a_callVv (n := 0) [] (C := RX5) (ci := 3) (qc := (RX5, TX5, 40)) (fsF := fl3 G _) ob_62.1 (fun _ => en3 ob_62.2) rfl rfl dX5_mended_40 (s5_think h) (gV tbc kM_RX5_209_X5_think kI_X5_think kS_X5_think kN_RX5 kC_X5_think) rfl (by decide +kernel) ⟨Nat.le_of_ble_eq_true rfl, Nat.le_of_ble_eq_true rfl⟩ rfl rfl (Nat.le_of_ble_eq_true rfl) ⟨Nat.le_refl 0, Nat.le_refl 0⟩ (fun M h => ?_)
    refine a_aload_n dX5_mended_43 1 rfl ?_
    refine a_iload_n dX5_mended_44 3 rfl ?_
    refine a_callVv (n := 1) [.int _] (C := RX5) (ci := 3) (qc := (RX5, TX5, 40)) (fsF := fl3 G _) ob_62.1 (fun _ => en3 ob_62.2) rfl rfl dX5_mended_45 (s5_goHours h) (gV tbc kM_RX5_200_X5_goHours kI_X5_goHours kS_X5_goHours kN_RX5 kC_X5_goHours) rfl (by decide +kernel) ⟨Nat.le_of_ble_eq_true rfl, Nat.le_of_ble_eq_true rfl⟩ rfl rfl (Nat.le_of_ble_eq_true rfl) ⟨Nat.le_refl 0, Nat.le_refl 0⟩ (fun M h => ?_)
    refine a_aload_n dX5_mended_48 1 rfl ?_
    refine a_get3 dX5_mended_49 6 (by decide) (tbc _ kF_RX5_131) (fun w h => tbc _ (uW3 w h)) rfl ob_62 rfl ?_
    refine a_istore (i := 4) (L' := [(4, .int _), (3, .int _), (0, .ref _), (1, .int _), (2, .int _)]) dX5_mended_52 (by decide) rfl ?_
    refine a_aload_n dX5_mended_54 2 rfl ?_
    refine a_callVv (n := 0) [] (C := RX5) (ci := 3) (qc := (RX5, TX5, 40)) (fsF := fl3 G _) ob_62.1 (fun _ => en3 ob_62.2) rfl rfl dX5_mended_55 (s5_again h) (gV tbc kM_RX5_215_X5_again kI_X5_again kS_X5_again kN_RX5 kC_X5_again) rfl (by decide +kernel) ⟨Nat.le_of_ble_eq_true rfl, Nat.le_of_ble_eq_true rfl⟩ rfl rfl (Nat.le_of_ble_eq_true rfl) ⟨Nat.le_refl 0, Nat.le_refl 0⟩ (fun M h => ?_)
    refine a_aload_n dX5_mended_58 2 rfl ?_
    refine a_get3 dX5_mended_59 4 (by decide) (tbc _ kF_RX5_19) (fun w h => tbc _ (uW3 w h)) rfl ob_62 rfl ?_
    refine a_iload_n dX5_mended_62 3 rfl ?_
    refine a_iconst (v := 0) dX5_mended_63 (by decide) ?_
    refine a_iast dX5_mended_64 h.1 ?_
    have h := h.2
    refine a_aload_n dX5_mended_65 2 rfl ?_
    refine a_iload_n dX5_mended_66 4 rfl ?_
    refine a_callVv (n := 1) [.int _] (C := RX5) (ci := 3) (qc := (RX5, TX5, 40)) (fsF := fl3 G _) ob_62.1 (fun _ => en3 ob_62.2) rfl rfl dX5_mended_67 (s5_goHours h) (gV tbc kM_RX5_200_X5_goHours kI_X5_goHours kS_X5_goHours kN_RX5 kC_X5_goHours) rfl (by decide +kernel) ⟨Nat.le_of_ble_eq_true rfl, Nat.le_of_ble_eq_true rfl⟩ rfl rfl (Nat.le_of_ble_eq_true rfl) ⟨Nat.le_refl 0, Nat.le_refl 0⟩ (fun M h => ?_)
    refine a_aload_n dX5_mended_70 2 rfl ?_
    refine a_get3 dX5_mended_71 6 (by decide) (tbc _ kF_RX5_131) (fun w h => tbc _ (uW3 w h)) rfl ob_62 rfl ?_
    refine a_istore (i := 5) (L' := [(5, .int _), (4, .int _), (3, .int _), (0, .ref _), (1, .int _), (2, .int _)]) dX5_mended_74 (by decide) rfl ?_
    refine a_aload_n dX5_mended_76 3 rfl ?_
    refine a_callVv (n := 0) [] (C := RX5) (ci := 3) (qc := (RX5, TX5, 40)) (fsF := fl3 G _) ob_62.1 (fun _ => en3 ob_62.2) rfl rfl dX5_mended_77 (s5_again h) (gV tbc kM_RX5_215_X5_again kI_X5_again kS_X5_again kN_RX5 kC_X5_again) rfl (by decide +kernel) ⟨Nat.le_of_ble_eq_true rfl, Nat.le_of_ble_eq_true rfl⟩ rfl rfl (Nat.le_of_ble_eq_true rfl) ⟨Nat.le_refl 0, Nat.le_refl 0⟩ (fun M h => ?_)
    refine a_iload dX5_mended_80 0 rfl ?_
    refine a_iload dX5_mended_82 1 rfl ?_
    refine a_isub dX5_mended_84 ?_
    exact a_iret dX5_mended_85 ⟨_, rfl, h⟩
  · have h := h.2 c
    refine a_ldcw dX5_mended_29 (tbc _ kK_RX5_329) ?_
    refine a_aload_n dX5_mended_32 1 rfl ?_
    refine a_iload_n dX5_mended_33 0 rfl ?_
    refine a_callVi (n := 1) [.int _] (C := RX5) (ci := 3) (qc := (RX5, TX5, 40)) (fsF := fl3 G _) ob_62.1 (fun _ => en3 ob_62.2) rfl rfl dX5_mended_34 (s5_refuse h) (gV tbc kM_RX5_149_X5_refuse kI_X5_refuse kS_X5_refuse kN_RX5 kC_X5_refuse) rfl (by decide +kernel) ⟨Nat.le_of_ble_eq_true rfl, Nat.le_of_ble_eq_true rfl⟩ rfl rfl (Nat.le_of_ble_eq_true rfl) ⟨Nat.le_refl 0, Nat.le_refl 0⟩ (fun r M h => ?_)
    refine a_isub dX5_mended_37 ?_
    exact a_iret dX5_mended_38 ⟨_, rfl, h⟩
set_option maxHeartbeats 4000000 in
set_option maxRecDepth 100000 in
theorem s5_mended {G : GG} {x1 : Int32} {x2 : Int32} {M : MM} {Q : Int32 → MM → Prop} (h : D5_mended x1 x2 M Q) : CM G yX5_mended (WY yX5_mended cX5_mended 6 (some .int)) 5 111 [.ref (gA G 62), .int x1, .int x2] M (qI Q) := by
  refine CM.of (cc := cX5_mended) (nL := 6) (ret := (some .int)) (own := RX5) (by decide +kernel) rfl rfl (Nat.le_of_ble_eq_true rfl) ?_
  show A5_mended G Q 0 [(0, .ref (gA G 62)), (1, .int x1), (2, .int x2)] [] M
  unfold D5_mended at h
  refine a_aload_n dX5_mended_0 0 rfl ?_
  refine a_iconst (v := 0) dX5_mended_1 (by decide) ?_
  refine a_put3 dX5_mended_2 9 (by decide) (tbc _ kF_RX5_73) (fun w h => tbc _ (uW3 w h)) rfl rfl rfl rfl ob_62 fs3_9 ?_
  refine a_aload_n dX5_mended_5 0 rfl ?_
  refine a_iload_n dX5_mended_6 1 rfl ?_
  refine a_callVi (n := 1) [.int _] (C := RX5) (ci := 3) (qc := (RX5, TX5, 40)) (fsF := fl3 G _) ob_62.1 (fun _ => en3 ob_62.2) rfl rfl dX5_mended_7 (s5_isWork h) (gV tbc kM_RX5_182_X5_isWork kI_X5_isWork kS_X5_isWork kN_RX5 kC_X5_isWork) rfl (by decide +kernel) ⟨Nat.le_of_ble_eq_true rfl, Nat.le_of_ble_eq_true rfl⟩ rfl rfl (Nat.le_of_ble_eq_true rfl) ⟨Nat.le_refl 0, Nat.le_refl 0⟩ (fun r M h => ?_)
  refine a_if_eq (tgt := 23) dX5_mended_10 (by decide) (fun c => ?_) (fun c => ?_)
  · have h := h.1 c
    refine a_iconst (v := -1) dX5_mended_23 (by decide) ?_
    refine a_sub [0, 1, 2] rfl ?_
    exact s5_mended_c24 _ _ _ _ h
  · have h := h.2 c
    refine a_iload_n dX5_mended_13 2 rfl ?_
    refine a_iconst (v := 0) dX5_mended_14 (by decide) ?_
    refine a_bipush (v := 60) dX5_mended_15 (by decide) ?_
    refine a_callSi (n := 3) [.int _, .int _, .int _] dX5_mended_17 (s5_wrongNumber h) (gS tbc kM_RX5_244_X5_wrongNumber kT_X5_wrongNumber kN_RX5 kC_X5_wrongNumber) rfl (by decide +kernel) ⟨Nat.le_of_ble_eq_true rfl, Nat.le_of_ble_eq_true rfl⟩ rfl rfl (Nat.le_of_ble_eq_true rfl) ⟨Nat.le_refl 0, Nat.le_refl 0⟩ (fun r M h => ?_)
    refine a_goto (tgt := 24) dX5_mended_20 (by decide) ?_
    refine a_sub [0, 1, 2] rfl ?_
    exact s5_mended_c24 _ _ _ _ h

/-! X5_nextOn -/
theorem dX5_nextOn_0 : decode cX5_nextOn 0 = .ok (.iconst 0, 1) := by decide +kernel
theorem dX5_nextOn_1 : decode cX5_nextOn 1 = .ok (.istore_n 3, 1) := by decide +kernel
theorem dX5_nextOn_2 : decode cX5_nextOn 2 = .ok (.iload_n 1, 1) := by decide +kernel
theorem dX5_nextOn_3 : decode cX5_nextOn 3 = .ok (.iload_n 3, 1) := by decide +kernel
theorem dX5_nextOn_4 : decode cX5_nextOn 4 = .ok (.invokestatic 93, 3) := by decide +kernel
theorem dX5_nextOn_7 : decode cX5_nextOn 7 = .ok (.ifCond .eq 47, 3) := by decide +kernel
theorem dX5_nextOn_10 : decode cX5_nextOn 10 = .ok (.aload_n 0, 1) := by decide +kernel
theorem dX5_nextOn_11 : decode cX5_nextOn 11 = .ok (.iload_n 2, 1) := by decide +kernel
theorem dX5_nextOn_12 : decode cX5_nextOn 12 = .ok (.invokevirtual 280, 3) := by decide +kernel
theorem dX5_nextOn_15 : decode cX5_nextOn 15 = .ok (.aload_n 0, 1) := by decide +kernel
theorem dX5_nextOn_16 : decode cX5_nextOn 16 = .ok (.getfield 16, 3) := by decide +kernel
theorem dX5_nextOn_19 : decode cX5_nextOn 19 = .ok (.iload_n 3, 1) := by decide +kernel
theorem dX5_nextOn_20 : decode cX5_nextOn 20 = .ok (.iaload, 1) := by decide +kernel
theorem dX5_nextOn_21 : decode cX5_nextOn 21 = .ok (.invokestatic 283, 3) := by decide +kernel
theorem dX5_nextOn_24 : decode cX5_nextOn 24 = .ok (.aload_n 0, 1) := by decide +kernel
theorem dX5_nextOn_25 : decode cX5_nextOn 25 = .ok (.getfield 61, 3) := by decide +kernel
theorem dX5_nextOn_28 : decode cX5_nextOn 28 = .ok (.bipush 9, 2) := by decide +kernel
theorem dX5_nextOn_30 : decode cX5_nextOn 30 = .ok (.iload_n 1, 1) := by decide +kernel
theorem dX5_nextOn_31 : decode cX5_nextOn 31 = .ok (.iconst 1, 1) := by decide +kernel
theorem dX5_nextOn_32 : decode cX5_nextOn 32 = .ok (.iload_n 3, 1) := by decide +kernel
theorem dX5_nextOn_33 : decode cX5_nextOn 33 = .ok (.ishl, 1) := by decide +kernel
theorem dX5_nextOn_34 : decode cX5_nextOn 34 = .ok (.isub, 1) := by decide +kernel
theorem dX5_nextOn_35 : decode cX5_nextOn 35 = .ok (.imul, 1) := by decide +kernel
theorem dX5_nextOn_36 : decode cX5_nextOn 36 = .ok (.iload_n 3, 1) := by decide +kernel
theorem dX5_nextOn_37 : decode cX5_nextOn 37 = .ok (.iadd, 1) := by decide +kernel
theorem dX5_nextOn_38 : decode cX5_nextOn 38 = .ok (.iaload, 1) := by decide +kernel
theorem dX5_nextOn_39 : decode cX5_nextOn 39 = .ok (.iadd, 1) := by decide +kernel
theorem dX5_nextOn_40 : decode cX5_nextOn 40 = .ok (.aload_n 0, 1) := by decide +kernel
theorem dX5_nextOn_41 : decode cX5_nextOn 41 = .ok (.getfield 61, 3) := by decide +kernel
theorem dX5_nextOn_44 : decode cX5_nextOn 44 = .ok (.bipush 9, 2) := by decide +kernel
theorem dX5_nextOn_46 : decode cX5_nextOn 46 = .ok (.iload_n 1, 1) := by decide +kernel
theorem dX5_nextOn_47 : decode cX5_nextOn 47 = .ok (.imul, 1) := by decide +kernel
theorem dX5_nextOn_48 : decode cX5_nextOn 48 = .ok (.iload_n 2, 1) := by decide +kernel
theorem dX5_nextOn_49 : decode cX5_nextOn 49 = .ok (.iadd, 1) := by decide +kernel
theorem dX5_nextOn_50 : decode cX5_nextOn 50 = .ok (.iaload, 1) := by decide +kernel
theorem dX5_nextOn_51 : decode cX5_nextOn 51 = .ok (.if_icmp .eq 9, 3) := by decide +kernel
theorem dX5_nextOn_54 : decode cX5_nextOn 54 = .ok (.iinc 3 1, 3) := by decide +kernel
theorem dX5_nextOn_57 : decode cX5_nextOn 57 = .ok (.goto (-55), 3) := by decide +kernel
theorem dX5_nextOn_60 : decode cX5_nextOn 60 = .ok (.iload_n 3, 1) := by decide +kernel
theorem dX5_nextOn_61 : decode cX5_nextOn 61 = .ok (.ireturn, 1) := by decide +kernel
abbrev A5_nextOn (G : GG) (Q : Int32 → MM → Prop) := AW G E0 (MZ G (qI Q)) (WY yX5_nextOn cX5_nextOn 4 (some .int)) RX5 cX5_nextOn 4 (some .int) ({ frames := 1, cells := 0, slots := 0, locals := 23 } : Room) 0 0
def D5_nextOn_c54 (K2 : Int32 → Int32 → Int32 → MM → Prop) (Q : Int32 → MM → Prop) (x1 : Int32) (x2 : Int32) (x3 : Int32) (M : MM) : Prop := (fun v7 : Int32 => K2 x1 x2 v7 M) (x3 + (1 : Int32))
def D5_nextOn_c2 (Q : Int32 → MM → Prop) : Nat → Int32 → Int32 → Int32 → MM → Prop
  | 0, _, _, _, _ => False
  | n + 1, x1, x2, x3, M => D5_hasBit x1 x3 M (fun (r1 : Int32) (M2 : MM) => ((r1 = 0 → D5_nextOn_c54 (D5_nextOn_c2 Q n) Q x1 x2 x3 M2) ∧ (¬ r1 = 0 → D5_cellOf x2 M2 (fun (r3 : Int32) (M4 : MM) => ib 65 x3 ∧ D5_stepsOf r3 (M4 65 (ix x3)) M4 (fun (r5 : Int32) (M6 : MM) => ib 80 (((9 : Int32) * (x1 - ((1 : Int32) <<< (x3 &&& 31)))) + x3) ∧ ib 80 (((9 : Int32) * x1) + x2) ∧ (((r5 + (M6 80 (ix (((9 : Int32) * (x1 - ((1 : Int32) <<< (x3 &&& 31)))) + x3)))) = (M6 80 (ix (((9 : Int32) * x1) + x2))) → Q x3 M6) ∧ (¬ (r5 + (M6 80 (ix (((9 : Int32) * (x1 - ((1 : Int32) <<< (x3 &&& 31)))) + x3)))) = (M6 80 (ix (((9 : Int32) * x1) + x2))) → D5_nextOn_c54 (D5_nextOn_c2 Q n) Q x1 x2 x3 M6)))))))
def D5_nextOn (x1 : Int32) (x2 : Int32) (M : MM) (Q : Int32 → MM → Prop) : Prop := D5_nextOn_c2 Q FU x1 x2 (0 : Int32) M
set_option maxHeartbeats 4000000 in
set_option maxRecDepth 100000 in
theorem s5_nextOn_c54 {G : GG} {K2 : Int32 → Int32 → Int32 → MM → Prop} {Q : Int32 → MM → Prop} (hK2 : ∀ (x1 : Int32) (x2 : Int32) (x3 : Int32) (M : MM), K2 x1 x2 x3 M → A5_nextOn G Q 2 [(0, .ref (gA G 62)), (1, .int x1), (2, .int x2), (3, .int x3)] [] M) : ∀ (x1 : Int32) (x2 : Int32) (x3 : Int32) (M : MM), D5_nextOn_c54 K2 Q x1 x2 x3 M → A5_nextOn G Q 54 [(0, .ref (gA G 62)), (1, .int x1), (2, .int x2), (3, .int x3)] [] M := by
  intro x1 x2 x3 M h
  unfold D5_nextOn_c54 at h
  refine a_iinc (L' := [(3, .int _), (0, .ref _), (1, .int _), (2, .int _)]) dX5_nextOn_54 3 rfl (show _ + Int32.ofInt (1 : Int) = _ + (1 : Int32) from rfl) (by decide) rfl ?_
  refine a_goto (tgt := 2) dX5_nextOn_57 (by decide) ?_
  refine a_sub [1, 2, 3, 0] rfl ?_
  exact hK2 _ _ _ _ h
set_option maxHeartbeats 4000000 in
set_option maxRecDepth 100000 in
theorem s5_nextOn_c2 {G : GG} {Q : Int32 → MM → Prop} : ∀ (n : Nat) (x1 : Int32) (x2 : Int32) (x3 : Int32) (M : MM), D5_nextOn_c2 Q n x1 x2 x3 M → A5_nextOn G Q 2 [(0, .ref (gA G 62)), (1, .int x1), (2, .int x2), (3, .int x3)] [] M := by
  intro n
  induction n with
  | zero => intro x1 x2 x3 M h; exact h.elim
  | succ n ih =>
    intro x1 x2 x3 M h
    unfold D5_nextOn_c2 at h
    refine a_iload_n dX5_nextOn_2 1 rfl ?_
    refine a_iload_n dX5_nextOn_3 3 rfl ?_
    refine a_callSi (n := 2) [.int _, .int _] dX5_nextOn_4 (s5_hasBit h) (gS tbc kM_RX5_93_X5_hasBit kT_X5_hasBit kN_RX5 kC_X5_hasBit) rfl (by decide +kernel) ⟨Nat.le_of_ble_eq_true rfl, Nat.le_of_ble_eq_true rfl⟩ rfl rfl (Nat.le_of_ble_eq_true rfl) ⟨Nat.le_refl 0, Nat.le_refl 0⟩ (fun r M h => ?_)
    refine a_if_eq (tgt := 54) dX5_nextOn_7 (by decide) (fun c => ?_) (fun c => ?_)
    · have h := h.1 c
      refine a_sub [0, 1, 2, 3] rfl ?_
      exact s5_nextOn_c54 ih _ _ _ _ h
    · have h := h.2 c
      refine a_aload_n dX5_nextOn_10 0 rfl ?_
      refine a_iload_n dX5_nextOn_11 2 rfl ?_
      refine a_callVi (n := 1) [.int _] (C := RX5) (ci := 3) (qc := (RX5, TX5, 40)) (fsF := fl3 G _) ob_62.1 (fun _ => en3 ob_62.2) rfl rfl dX5_nextOn_12 (s5_cellOf h) (gV tbc kM_RX5_280_X5_cellOf kI_X5_cellOf kS_X5_cellOf kN_RX5 kC_X5_cellOf) rfl (by decide +kernel) ⟨Nat.le_of_ble_eq_true rfl, Nat.le_of_ble_eq_true rfl⟩ rfl rfl (Nat.le_of_ble_eq_true rfl) ⟨Nat.le_refl 0, Nat.le_refl 0⟩ (fun r M h => ?_)
      refine a_aload_n dX5_nextOn_15 0 rfl ?_
      refine a_get3 dX5_nextOn_16 3 (by decide) (tbc _ kF_RX5_16) (fun w h => tbc _ (uW3 w h)) rfl ob_62 rfl ?_
      refine a_iload_n dX5_nextOn_19 3 rfl ?_
      refine a_iald dX5_nextOn_20 h.1 ?_
      have h := h.2
      refine a_callSi (n := 2) [.int _, .int _] dX5_nextOn_21 (s5_stepsOf h) (gS tbc kM_RX5_283_X5_stepsOf kT_X5_stepsOf kN_RX5 kC_X5_stepsOf) rfl (by decide +kernel) ⟨Nat.le_of_ble_eq_true rfl, Nat.le_of_ble_eq_true rfl⟩ rfl rfl (Nat.le_of_ble_eq_true rfl) ⟨Nat.le_refl 0, Nat.le_refl 0⟩ (fun r M h => ?_)
      refine a_aload_n dX5_nextOn_24 0 rfl ?_
      refine a_get3 dX5_nextOn_25 34 (by decide) (tbc _ kF_RX5_61) (fun w h => tbc _ (uW3 w h)) rfl ob_62 rfl ?_
      refine a_bipush (v := 9) dX5_nextOn_28 (by decide) ?_
      refine a_iload_n dX5_nextOn_30 1 rfl ?_
      refine a_iconst (v := 1) dX5_nextOn_31 (by decide) ?_
      refine a_iload_n dX5_nextOn_32 3 rfl ?_
      refine a_ishl dX5_nextOn_33 ?_
      refine a_isub dX5_nextOn_34 ?_
      refine a_imul dX5_nextOn_35 ?_
      refine a_iload_n dX5_nextOn_36 3 rfl ?_
      refine a_iadd dX5_nextOn_37 ?_
      refine a_iald dX5_nextOn_38 h.1 ?_
      have h := h.2
      refine a_iadd dX5_nextOn_39 ?_
      refine a_aload_n dX5_nextOn_40 0 rfl ?_
      refine a_get3 dX5_nextOn_41 34 (by decide) (tbc _ kF_RX5_61) (fun w h => tbc _ (uW3 w h)) rfl ob_62 rfl ?_
      refine a_bipush (v := 9) dX5_nextOn_44 (by decide) ?_
      refine a_iload_n dX5_nextOn_46 1 rfl ?_
      refine a_imul dX5_nextOn_47 ?_
      refine a_iload_n dX5_nextOn_48 2 rfl ?_
      refine a_iadd dX5_nextOn_49 ?_
      refine a_iald dX5_nextOn_50 h.1 ?_
      have h := h.2
      refine a_icmp_eq (tgt := 60) dX5_nextOn_51 (by decide) (fun c => ?_) (fun c => ?_)
      · have h := h.1 c
        refine a_iload_n dX5_nextOn_60 3 rfl ?_
        exact a_iret dX5_nextOn_61 ⟨_, rfl, h⟩
      · have h := h.2 c
        refine a_sub [0, 1, 2, 3] rfl ?_
        exact s5_nextOn_c54 ih _ _ _ _ h
set_option maxHeartbeats 4000000 in
set_option maxRecDepth 100000 in
theorem s5_nextOn {G : GG} {x1 : Int32} {x2 : Int32} {M : MM} {Q : Int32 → MM → Prop} (h : D5_nextOn x1 x2 M Q) : CM G yX5_nextOn (WY yX5_nextOn cX5_nextOn 4 (some .int)) 1 23 [.ref (gA G 62), .int x1, .int x2] M (qI Q) := by
  refine CM.of (cc := cX5_nextOn) (nL := 4) (ret := (some .int)) (own := RX5) (by decide +kernel) rfl rfl (Nat.le_of_ble_eq_true rfl) ?_
  show A5_nextOn G Q 0 [(0, .ref (gA G 62)), (1, .int x1), (2, .int x2)] [] M
  unfold D5_nextOn at h
  refine a_iconst (v := 0) dX5_nextOn_0 (by decide) ?_
  refine a_istore_n (i := 3) (L' := [(3, .int _), (0, .ref _), (1, .int _), (2, .int _)]) dX5_nextOn_1 rfl (by decide) rfl ?_
  refine a_sub [1, 2, 3, 0] rfl ?_
  exact s5_nextOn_c2 _ _ _ _ _ h

/-! X5_pairs -/
theorem dX5_pairs_0 : decode cX5_pairs 0 = .ok (.aload_n 0, 1) := by decide +kernel
theorem dX5_pairs_1 : decode cX5_pairs 1 = .ok (.iconst 0, 1) := by decide +kernel
theorem dX5_pairs_2 : decode cX5_pairs 2 = .ok (.putfield 73, 3) := by decide +kernel
theorem dX5_pairs_5 : decode cX5_pairs 5 = .ok (.iload_n 1, 1) := by decide +kernel
theorem dX5_pairs_6 : decode cX5_pairs 6 = .ok (.i2l, 1) := by decide +kernel
theorem dX5_pairs_7 : decode cX5_pairs 7 = .ok (.lconst 0, 1) := by decide +kernel
theorem dX5_pairs_8 : decode cX5_pairs 8 = .ok (.ldc2_w 330, 3) := by decide +kernel
theorem dX5_pairs_11 : decode cX5_pairs 11 = .ok (.invokestatic 80, 3) := by decide +kernel
theorem dX5_pairs_14 : decode cX5_pairs 14 = .ok (.ifCond .ne 10, 3) := by decide +kernel
theorem dX5_pairs_17 : decode cX5_pairs 17 = .ok (.aload_n 0, 1) := by decide +kernel
theorem dX5_pairs_18 : decode cX5_pairs 18 = .ok (.bipush (-2), 2) := by decide +kernel
theorem dX5_pairs_20 : decode cX5_pairs 20 = .ok (.invokevirtual 149, 3) := by decide +kernel
theorem dX5_pairs_23 : decode cX5_pairs 23 = .ok (.ireturn, 1) := by decide +kernel
theorem dX5_pairs_24 : decode cX5_pairs 24 = .ok (.iconst 0, 1) := by decide +kernel
theorem dX5_pairs_25 : decode cX5_pairs 25 = .ok (.istore_n 2, 1) := by decide +kernel
theorem dX5_pairs_26 : decode cX5_pairs 26 = .ok (.iconst 0, 1) := by decide +kernel
theorem dX5_pairs_27 : decode cX5_pairs 27 = .ok (.istore_n 3, 1) := by decide +kernel
theorem dX5_pairs_28 : decode cX5_pairs 28 = .ok (.iconst 0, 1) := by decide +kernel
theorem dX5_pairs_29 : decode cX5_pairs 29 = .ok (.istore 4, 2) := by decide +kernel
theorem dX5_pairs_31 : decode cX5_pairs 31 = .ok (.iconst 0, 1) := by decide +kernel
theorem dX5_pairs_32 : decode cX5_pairs 32 = .ok (.istore 5, 2) := by decide +kernel
theorem dX5_pairs_34 : decode cX5_pairs 34 = .ok (.iload 5, 2) := by decide +kernel
theorem dX5_pairs_36 : decode cX5_pairs 36 = .ok (.aload_n 0, 1) := by decide +kernel
theorem dX5_pairs_37 : decode cX5_pairs 37 = .ok (.getfield 77, 3) := by decide +kernel
theorem dX5_pairs_40 : decode cX5_pairs 40 = .ok (.if_icmp .ge 112, 3) := by decide +kernel
theorem dX5_pairs_43 : decode cX5_pairs 43 = .ok (.iload 5, 2) := by decide +kernel
theorem dX5_pairs_45 : decode cX5_pairs 45 = .ok (.iconst 1, 1) := by decide +kernel
theorem dX5_pairs_46 : decode cX5_pairs 46 = .ok (.iadd, 1) := by decide +kernel
theorem dX5_pairs_47 : decode cX5_pairs 47 = .ok (.istore 6, 2) := by decide +kernel
theorem dX5_pairs_49 : decode cX5_pairs 49 = .ok (.iload 6, 2) := by decide +kernel
theorem dX5_pairs_51 : decode cX5_pairs 51 = .ok (.aload_n 0, 1) := by decide +kernel
theorem dX5_pairs_52 : decode cX5_pairs 52 = .ok (.getfield 77, 3) := by decide +kernel
theorem dX5_pairs_55 : decode cX5_pairs 55 = .ok (.if_icmp .ge 91, 3) := by decide +kernel
theorem dX5_pairs_58 : decode cX5_pairs 58 = .ok (.aload_n 0, 1) := by decide +kernel
theorem dX5_pairs_59 : decode cX5_pairs 59 = .ok (.getfield 22, 3) := by decide +kernel
theorem dX5_pairs_62 : decode cX5_pairs 62 = .ok (.iload 5, 2) := by decide +kernel
theorem dX5_pairs_64 : decode cX5_pairs 64 = .ok (.iaload, 1) := by decide +kernel
theorem dX5_pairs_65 : decode cX5_pairs 65 = .ok (.ifCond .ne 17, 3) := by decide +kernel
theorem dX5_pairs_68 : decode cX5_pairs 68 = .ok (.aload_n 0, 1) := by decide +kernel
theorem dX5_pairs_69 : decode cX5_pairs 69 = .ok (.getfield 22, 3) := by decide +kernel
theorem dX5_pairs_72 : decode cX5_pairs 72 = .ok (.iload 6, 2) := by decide +kernel
theorem dX5_pairs_74 : decode cX5_pairs 74 = .ok (.iaload, 1) := by decide +kernel
theorem dX5_pairs_75 : decode cX5_pairs 75 = .ok (.ifCond .ne 7, 3) := by decide +kernel
theorem dX5_pairs_78 : decode cX5_pairs 78 = .ok (.iconst 1, 1) := by decide +kernel
theorem dX5_pairs_79 : decode cX5_pairs 79 = .ok (.goto 4, 3) := by decide +kernel
theorem dX5_pairs_82 : decode cX5_pairs 82 = .ok (.iconst 0, 1) := by decide +kernel
theorem dX5_pairs_83 : decode cX5_pairs 83 = .ok (.istore 7, 2) := by decide +kernel
theorem dX5_pairs_85 : decode cX5_pairs 85 = .ok (.iload 7, 2) := by decide +kernel
theorem dX5_pairs_87 : decode cX5_pairs 87 = .ok (.ifCond .eq 23, 3) := by decide +kernel
theorem dX5_pairs_90 : decode cX5_pairs 90 = .ok (.aload_n 0, 1) := by decide +kernel
theorem dX5_pairs_91 : decode cX5_pairs 91 = .ok (.getfield 16, 3) := by decide +kernel
theorem dX5_pairs_94 : decode cX5_pairs 94 = .ok (.iload 5, 2) := by decide +kernel
theorem dX5_pairs_96 : decode cX5_pairs 96 = .ok (.iaload, 1) := by decide +kernel
theorem dX5_pairs_97 : decode cX5_pairs 97 = .ok (.aload_n 0, 1) := by decide +kernel
theorem dX5_pairs_98 : decode cX5_pairs 98 = .ok (.getfield 16, 3) := by decide +kernel
theorem dX5_pairs_101 : decode cX5_pairs 101 = .ok (.iload 6, 2) := by decide +kernel
theorem dX5_pairs_103 : decode cX5_pairs 103 = .ok (.iaload, 1) := by decide +kernel
theorem dX5_pairs_104 : decode cX5_pairs 104 = .ok (.invokestatic 283, 3) := by decide +kernel
theorem dX5_pairs_107 : decode cX5_pairs 107 = .ok (.goto 4, 3) := by decide +kernel
theorem dX5_pairs_110 : decode cX5_pairs 110 = .ok (.iconst 0, 1) := by decide +kernel
theorem dX5_pairs_111 : decode cX5_pairs 111 = .ok (.istore 8, 2) := by decide +kernel
theorem dX5_pairs_113 : decode cX5_pairs 113 = .ok (.iload_n 2, 1) := by decide +kernel
theorem dX5_pairs_114 : decode cX5_pairs 114 = .ok (.iload 8, 2) := by decide +kernel
theorem dX5_pairs_116 : decode cX5_pairs 116 = .ok (.iconst 1, 1) := by decide +kernel
theorem dX5_pairs_117 : decode cX5_pairs 117 = .ok (.if_icmp .ne 7, 3) := by decide +kernel
theorem dX5_pairs_120 : decode cX5_pairs 120 = .ok (.iconst 1, 1) := by decide +kernel
theorem dX5_pairs_121 : decode cX5_pairs 121 = .ok (.goto 4, 3) := by decide +kernel
theorem dX5_pairs_124 : decode cX5_pairs 124 = .ok (.iconst 0, 1) := by decide +kernel
theorem dX5_pairs_125 : decode cX5_pairs 125 = .ok (.iadd, 1) := by decide +kernel
theorem dX5_pairs_126 : decode cX5_pairs 126 = .ok (.istore_n 2, 1) := by decide +kernel
theorem dX5_pairs_127 : decode cX5_pairs 127 = .ok (.iload 8, 2) := by decide +kernel
theorem dX5_pairs_129 : decode cX5_pairs 129 = .ok (.iload_n 3, 1) := by decide +kernel
theorem dX5_pairs_130 : decode cX5_pairs 130 = .ok (.if_icmp .le 8, 3) := by decide +kernel
theorem dX5_pairs_133 : decode cX5_pairs 133 = .ok (.iload 8, 2) := by decide +kernel
theorem dX5_pairs_135 : decode cX5_pairs 135 = .ok (.goto 4, 3) := by decide +kernel
theorem dX5_pairs_138 : decode cX5_pairs 138 = .ok (.iload_n 3, 1) := by decide +kernel
theorem dX5_pairs_139 : decode cX5_pairs 139 = .ok (.istore_n 3, 1) := by decide +kernel
theorem dX5_pairs_140 : decode cX5_pairs 140 = .ok (.iinc 6 1, 3) := by decide +kernel
theorem dX5_pairs_143 : decode cX5_pairs 143 = .ok (.goto (-94), 3) := by decide +kernel
theorem dX5_pairs_146 : decode cX5_pairs 146 = .ok (.iinc 5 1, 3) := by decide +kernel
theorem dX5_pairs_149 : decode cX5_pairs 149 = .ok (.goto (-115), 3) := by decide +kernel
theorem dX5_pairs_152 : decode cX5_pairs 152 = .ok (.iconst 0, 1) := by decide +kernel
theorem dX5_pairs_153 : decode cX5_pairs 153 = .ok (.istore 5, 2) := by decide +kernel
theorem dX5_pairs_155 : decode cX5_pairs 155 = .ok (.iload 5, 2) := by decide +kernel
theorem dX5_pairs_157 : decode cX5_pairs 157 = .ok (.bipush 25, 2) := by decide +kernel
theorem dX5_pairs_159 : decode cX5_pairs 159 = .ok (.if_icmp .ge 31, 3) := by decide +kernel
theorem dX5_pairs_162 : decode cX5_pairs 162 = .ok (.iload 4, 2) := by decide +kernel
theorem dX5_pairs_164 : decode cX5_pairs 164 = .ok (.aload_n 0, 1) := by decide +kernel
theorem dX5_pairs_165 : decode cX5_pairs 165 = .ok (.iload 5, 2) := by decide +kernel
theorem dX5_pairs_167 : decode cX5_pairs 167 = .ok (.invokevirtual 188, 3) := by decide +kernel
theorem dX5_pairs_170 : decode cX5_pairs 170 = .ok (.ifCond .ge 10, 3) := by decide +kernel
theorem dX5_pairs_173 : decode cX5_pairs 173 = .ok (.iconst 1, 1) := by decide +kernel
theorem dX5_pairs_174 : decode cX5_pairs 174 = .ok (.iload 5, 2) := by decide +kernel
theorem dX5_pairs_176 : decode cX5_pairs 176 = .ok (.ishl, 1) := by decide +kernel
theorem dX5_pairs_177 : decode cX5_pairs 177 = .ok (.goto 4, 3) := by decide +kernel
theorem dX5_pairs_180 : decode cX5_pairs 180 = .ok (.iconst 0, 1) := by decide +kernel
theorem dX5_pairs_181 : decode cX5_pairs 181 = .ok (.ior, 1) := by decide +kernel
theorem dX5_pairs_182 : decode cX5_pairs 182 = .ok (.istore 4, 2) := by decide +kernel
theorem dX5_pairs_184 : decode cX5_pairs 184 = .ok (.iinc 5 1, 3) := by decide +kernel
theorem dX5_pairs_187 : decode cX5_pairs 187 = .ok (.goto (-32), 3) := by decide +kernel
theorem dX5_pairs_190 : decode cX5_pairs 190 = .ok (.iload_n 1, 1) := by decide +kernel
theorem dX5_pairs_191 : decode cX5_pairs 191 = .ok (.ifCond .ne 7, 3) := by decide +kernel
theorem dX5_pairs_194 : decode cX5_pairs 194 = .ok (.iload_n 2, 1) := by decide +kernel
theorem dX5_pairs_195 : decode cX5_pairs 195 = .ok (.goto 14, 3) := by decide +kernel
theorem dX5_pairs_198 : decode cX5_pairs 198 = .ok (.iload_n 1, 1) := by decide +kernel
theorem dX5_pairs_199 : decode cX5_pairs 199 = .ok (.iconst 1, 1) := by decide +kernel
theorem dX5_pairs_200 : decode cX5_pairs 200 = .ok (.if_icmp .ne 7, 3) := by decide +kernel
theorem dX5_pairs_203 : decode cX5_pairs 203 = .ok (.iload_n 3, 1) := by decide +kernel
theorem dX5_pairs_204 : decode cX5_pairs 204 = .ok (.goto 5, 3) := by decide +kernel
theorem dX5_pairs_207 : decode cX5_pairs 207 = .ok (.iload 4, 2) := by decide +kernel
theorem dX5_pairs_209 : decode cX5_pairs 209 = .ok (.ireturn, 1) := by decide +kernel
abbrev A5_pairs (G : GG) (Q : Int32 → MM → Prop) := AW G E0 (MZ G (qI Q)) (WY yX5_pairs cX5_pairs 9 (some .int)) RX5 cX5_pairs 9 (some .int) ({ frames := 1, cells := 0, slots := 0, locals := 25 } : Room) 0 0
def D5_pairs_c139 (K49 : Int32 → Int32 → Int32 → Int32 → Int32 → Int32 → MM → Prop) (K34 : Int32 → Int32 → Int32 → Int32 → Int32 → MM → Prop) (Q : Int32 → MM → Prop) (x1 : Int32) (x2 : Int32) (x4 : Int32) (x5 : Int32) (x6 : Int32) (s0 : Int32) (M : MM) : Prop := (fun v15 : Int32 => K49 x1 x2 s0 x4 x5 v15 M) (x6 + (1 : Int32))
def D5_pairs_c125 (K49 : Int32 → Int32 → Int32 → Int32 → Int32 → Int32 → MM → Prop) (K34 : Int32 → Int32 → Int32 → Int32 → Int32 → MM → Prop) (Q : Int32 → MM → Prop) (x1 : Int32) (x3 : Int32) (x4 : Int32) (x5 : Int32) (x6 : Int32) (x8 : Int32) (s0 : Int32) (s1 : Int32) (M : MM) : Prop := (fun v14 : Int32 => ((x8 ≤ x3 → D5_pairs_c139 K49 K34 Q x1 v14 x4 x5 x6 x3 M) ∧ (¬ x8 ≤ x3 → D5_pairs_c139 K49 K34 Q x1 v14 x4 x5 x6 x8 M))) (s1 + s0)
def D5_pairs_c111 (K49 : Int32 → Int32 → Int32 → Int32 → Int32 → Int32 → MM → Prop) (K34 : Int32 → Int32 → Int32 → Int32 → Int32 → MM → Prop) (Q : Int32 → MM → Prop) (x1 : Int32) (x2 : Int32) (x3 : Int32) (x4 : Int32) (x5 : Int32) (x6 : Int32) (s0 : Int32) (M : MM) : Prop := ((s0 ≠ (1 : Int32) → D5_pairs_c125 K49 K34 Q x1 x3 x4 x5 x6 s0 (0 : Int32) x2 M) ∧ (s0 = (1 : Int32) → D5_pairs_c125 K49 K34 Q x1 x3 x4 x5 x6 s0 (1 : Int32) x2 M))
def D5_pairs_c83 (K49 : Int32 → Int32 → Int32 → Int32 → Int32 → Int32 → MM → Prop) (K34 : Int32 → Int32 → Int32 → Int32 → Int32 → MM → Prop) (Q : Int32 → MM → Prop) (x1 : Int32) (x2 : Int32) (x3 : Int32) (x4 : Int32) (x5 : Int32) (x6 : Int32) (s0 : Int32) (M : MM) : Prop := ((s0 = 0 → D5_pairs_c111 K49 K34 Q x1 x2 x3 x4 x5 x6 (0 : Int32) M) ∧ (¬ s0 = 0 → ib 65 x5 ∧ ib 65 x6 ∧ D5_stepsOf (M 65 (ix x5)) (M 65 (ix x6)) M (fun (r10 : Int32) (M11 : MM) => D5_pairs_c111 K49 K34 Q x1 x2 x3 x4 x5 x6 r10 M11)))
def D5_pairs_c82 (K49 : Int32 → Int32 → Int32 → Int32 → Int32 → Int32 → MM → Prop) (K34 : Int32 → Int32 → Int32 → Int32 → Int32 → MM → Prop) (Q : Int32 → MM → Prop) (x1 : Int32) (x2 : Int32) (x3 : Int32) (x4 : Int32) (x5 : Int32) (x6 : Int32) (M : MM) : Prop := D5_pairs_c83 K49 K34 Q x1 x2 x3 x4 x5 x6 (0 : Int32) M
def D5_pairs_c146 (K34 : Int32 → Int32 → Int32 → Int32 → Int32 → MM → Prop) (Q : Int32 → MM → Prop) (x1 : Int32) (x2 : Int32) (x3 : Int32) (x4 : Int32) (x5 : Int32) (M : MM) : Prop := (fun v9 : Int32 => K34 x1 x2 x3 x4 v9 M) (x5 + (1 : Int32))
def D5_pairs_c49 (K34 : Int32 → Int32 → Int32 → Int32 → Int32 → MM → Prop) (Q : Int32 → MM → Prop) : Nat → Int32 → Int32 → Int32 → Int32 → Int32 → Int32 → MM → Prop
  | 0, _, _, _, _, _, _, _ => False
  | n + 1, x1, x2, x3, x4, x5, x6, M => (((M 62 0) ≤ x6 → D5_pairs_c146 K34 Q x1 x2 x3 x4 x5 M) ∧ (¬ (M 62 0) ≤ x6 → ib 67 x5 ∧ (((M 67 (ix x5)) ≠ 0 → D5_pairs_c82 (D5_pairs_c49 K34 Q n) K34 Q x1 x2 x3 x4 x5 x6 M) ∧ ((M 67 (ix x5)) = 0 → ib 67 x6 ∧ (((M 67 (ix x6)) ≠ 0 → D5_pairs_c82 (D5_pairs_c49 K34 Q n) K34 Q x1 x2 x3 x4 x5 x6 M) ∧ ((M 67 (ix x6)) = 0 → D5_pairs_c83 (D5_pairs_c49 K34 Q n) K34 Q x1 x2 x3 x4 x5 x6 (1 : Int32) M))))))
def D5_pairs_c181 (K155 : Int32 → Int32 → Int32 → Int32 → Int32 → MM → Prop) (Q : Int32 → MM → Prop) (x1 : Int32) (x2 : Int32) (x3 : Int32) (x5 : Int32) (s0 : Int32) (s1 : Int32) (M : MM) : Prop := (fun v12 : Int32 => (fun v13 : Int32 => K155 x1 x2 x3 v12 v13 M) (x5 + (1 : Int32))) (s1 ||| s0)
def D5_pairs_c190 (Q : Int32 → MM → Prop) (x1 : Int32) (x2 : Int32) (x3 : Int32) (x4 : Int32) (M : MM) : Prop := ((x1 ≠ 0 → ((x1 ≠ (1 : Int32) → Q x4 M) ∧ (x1 = (1 : Int32) → Q x3 M))) ∧ (x1 = 0 → Q x2 M))
def D5_pairs_c155 (Q : Int32 → MM → Prop) : Nat → Int32 → Int32 → Int32 → Int32 → Int32 → MM → Prop
  | 0, _, _, _, _, _, _ => False
  | n + 1, x1, x2, x3, x4, x5, M => (((25 : Int32) ≤ x5 → D5_pairs_c190 Q x1 x2 x3 x4 M) ∧ (¬ (25 : Int32) ≤ x5 → D5_workAt x5 M (fun (r7 : Int32) (M8 : MM) => ((0 ≤ r7 → D5_pairs_c181 (D5_pairs_c155 Q n) Q x1 x2 x3 x5 (0 : Int32) x4 M8) ∧ (¬ 0 ≤ r7 → D5_pairs_c181 (D5_pairs_c155 Q n) Q x1 x2 x3 x5 ((1 : Int32) <<< (x5 &&& 31)) x4 M8)))))
def D5_pairs_c152 (Q : Int32 → MM → Prop) (x1 : Int32) (x2 : Int32) (x3 : Int32) (x4 : Int32) (M : MM) : Prop := D5_pairs_c155 Q FU x1 x2 x3 x4 (0 : Int32) M
def D5_pairs_c34 (Q : Int32 → MM → Prop) : Nat → Int32 → Int32 → Int32 → Int32 → Int32 → MM → Prop
  | 0, _, _, _, _, _, _ => False
  | n + 1, x1, x2, x3, x4, x5, M => (((M 62 0) ≤ x5 → D5_pairs_c152 Q x1 x2 x3 x4 M) ∧ (¬ (M 62 0) ≤ x5 → (fun v6 : Int32 => D5_pairs_c49 (D5_pairs_c34 Q n) Q FU x1 x2 x3 x4 x5 v6 M) (x5 + (1 : Int32))))
def D5_pairs (x1 : Int32) (M : MM) (Q : Int32 → MM → Prop) : Prop := (fun M1 : MM => D5_in x1.toInt64 (0 : Int64) (2 : Int64) M1 (fun (r2 : Int32) (M3 : MM) => ((r2 ≠ 0 → D5_pairs_c34 Q FU x1 (0 : Int32) (0 : Int32) (0 : Int32) (0 : Int32) M3) ∧ (r2 = 0 → D5_refuse (-2 : Int32) M3 (fun (r4 : Int32) (M5 : MM) => Q r4 M5))))) (up M 62 9 (0 : Int32))
set_option maxHeartbeats 4000000 in
set_option maxRecDepth 100000 in
theorem s5_pairs_c139 {G : GG} {K49 : Int32 → Int32 → Int32 → Int32 → Int32 → Int32 → MM → Prop} {K34 : Int32 → Int32 → Int32 → Int32 → Int32 → MM → Prop} {Q : Int32 → MM → Prop} (hK49 : ∀ (x1 : Int32) (x2 : Int32) (x3 : Int32) (x4 : Int32) (x5 : Int32) (x6 : Int32) (M : MM), K49 x1 x2 x3 x4 x5 x6 M → A5_pairs G Q 49 [(0, .ref (gA G 62)), (1, .int x1), (2, .int x2), (3, .int x3), (4, .int x4), (5, .int x5), (6, .int x6)] [] M) (hK34 : ∀ (x1 : Int32) (x2 : Int32) (x3 : Int32) (x4 : Int32) (x5 : Int32) (M : MM), K34 x1 x2 x3 x4 x5 M → A5_pairs G Q 34 [(0, .ref (gA G 62)), (1, .int x1), (2, .int x2), (3, .int x3), (4, .int x4), (5, .int x5)] [] M) : ∀ (x1 : Int32) (x2 : Int32) (x4 : Int32) (x5 : Int32) (x6 : Int32) (s0 : Int32) (M : MM), D5_pairs_c139 K49 K34 Q x1 x2 x4 x5 x6 s0 M → A5_pairs G Q 139 [(0, .ref (gA G 62)), (1, .int x1), (2, .int x2), (4, .int x4), (5, .int x5), (6, .int x6)] [.int s0] M := by
  intro x1 x2 x4 x5 x6 s0 M h
  unfold D5_pairs_c139 at h
  refine a_istore_n (i := 3) (L' := [(3, .int _), (0, .ref _), (1, .int _), (2, .int _), (4, .int _), (5, .int _), (6, .int _)]) dX5_pairs_139 rfl (by decide) rfl ?_
  refine a_iinc (L' := [(6, .int _), (3, .int _), (0, .ref _), (1, .int _), (2, .int _), (4, .int _), (5, .int _)]) dX5_pairs_140 6 rfl (show _ + Int32.ofInt (1 : Int) = _ + (1 : Int32) from rfl) (by decide) rfl ?_
  refine a_goto (tgt := 49) dX5_pairs_143 (by decide) ?_
  refine a_sub [2, 3, 4, 1, 5, 6, 0] rfl ?_
  exact hK49 _ _ _ _ _ _ _ h
set_option maxHeartbeats 4000000 in
set_option maxRecDepth 100000 in
theorem s5_pairs_c125 {G : GG} {K49 : Int32 → Int32 → Int32 → Int32 → Int32 → Int32 → MM → Prop} {K34 : Int32 → Int32 → Int32 → Int32 → Int32 → MM → Prop} {Q : Int32 → MM → Prop} (hK49 : ∀ (x1 : Int32) (x2 : Int32) (x3 : Int32) (x4 : Int32) (x5 : Int32) (x6 : Int32) (M : MM), K49 x1 x2 x3 x4 x5 x6 M → A5_pairs G Q 49 [(0, .ref (gA G 62)), (1, .int x1), (2, .int x2), (3, .int x3), (4, .int x4), (5, .int x5), (6, .int x6)] [] M) (hK34 : ∀ (x1 : Int32) (x2 : Int32) (x3 : Int32) (x4 : Int32) (x5 : Int32) (M : MM), K34 x1 x2 x3 x4 x5 M → A5_pairs G Q 34 [(0, .ref (gA G 62)), (1, .int x1), (2, .int x2), (3, .int x3), (4, .int x4), (5, .int x5)] [] M) : ∀ (x1 : Int32) (x3 : Int32) (x4 : Int32) (x5 : Int32) (x6 : Int32) (x8 : Int32) (s0 : Int32) (s1 : Int32) (M : MM), D5_pairs_c125 K49 K34 Q x1 x3 x4 x5 x6 x8 s0 s1 M → A5_pairs G Q 125 [(0, .ref (gA G 62)), (1, .int x1), (3, .int x3), (4, .int x4), (5, .int x5), (6, .int x6), (8, .int x8)] [.int s0, .int s1] M := by
  intro x1 x3 x4 x5 x6 x8 s0 s1 M h
  unfold D5_pairs_c125 at h
  refine a_iadd dX5_pairs_125 ?_
  refine a_istore_n (i := 2) (L' := [(2, .int _), (0, .ref _), (1, .int _), (3, .int _), (4, .int _), (5, .int _), (6, .int _), (8, .int _)]) dX5_pairs_126 rfl (by decide) rfl ?_
  refine a_iload dX5_pairs_127 7 rfl ?_
  refine a_iload_n dX5_pairs_129 3 rfl ?_
  refine a_icmp_le (tgt := 138) dX5_pairs_130 (by decide) (fun c => ?_) (fun c => ?_)
  · have h := h.1 c
    refine a_iload_n dX5_pairs_138 3 rfl ?_
    refine a_sub [1, 2, 0, 4, 5, 6] rfl ?_
    exact s5_pairs_c139 hK49 hK34 _ _ _ _ _ _ _ h
  · have h := h.2 c
    refine a_iload dX5_pairs_133 7 rfl ?_
    refine a_goto (tgt := 139) dX5_pairs_135 (by decide) ?_
    refine a_sub [1, 2, 0, 4, 5, 6] rfl ?_
    exact s5_pairs_c139 hK49 hK34 _ _ _ _ _ _ _ h
set_option maxHeartbeats 4000000 in
set_option maxRecDepth 100000 in
theorem s5_pairs_c111 {G : GG} {K49 : Int32 → Int32 → Int32 → Int32 → Int32 → Int32 → MM → Prop} {K34 : Int32 → Int32 → Int32 → Int32 → Int32 → MM → Prop} {Q : Int32 → MM → Prop} (hK49 : ∀ (x1 : Int32) (x2 : Int32) (x3 : Int32) (x4 : Int32) (x5 : Int32) (x6 : Int32) (M : MM), K49 x1 x2 x3 x4 x5 x6 M → A5_pairs G Q 49 [(0, .ref (gA G 62)), (1, .int x1), (2, .int x2), (3, .int x3), (4, .int x4), (5, .int x5), (6, .int x6)] [] M) (hK34 : ∀ (x1 : Int32) (x2 : Int32) (x3 : Int32) (x4 : Int32) (x5 : Int32) (M : MM), K34 x1 x2 x3 x4 x5 M → A5_pairs G Q 34 [(0, .ref (gA G 62)), (1, .int x1), (2, .int x2), (3, .int x3), (4, .int x4), (5, .int x5)] [] M) : ∀ (x1 : Int32) (x2 : Int32) (x3 : Int32) (x4 : Int32) (x5 : Int32) (x6 : Int32) (s0 : Int32) (M : MM), D5_pairs_c111 K49 K34 Q x1 x2 x3 x4 x5 x6 s0 M → A5_pairs G Q 111 [(0, .ref (gA G 62)), (1, .int x1), (2, .int x2), (3, .int x3), (4, .int x4), (5, .int x5), (6, .int x6)] [.int s0] M := by
  intro x1 x2 x3 x4 x5 x6 s0 M h
  unfold D5_pairs_c111 at h
  refine a_istore (i := 8) (L' := [(8, .int _), (0, .ref _), (1, .int _), (2, .int _), (3, .int _), (4, .int _), (5, .int _), (6, .int _)]) dX5_pairs_111 (by decide) rfl ?_
  refine a_iload_n dX5_pairs_113 3 rfl ?_
  refine a_iload dX5_pairs_114 0 rfl ?_
  refine a_iconst (v := 1) dX5_pairs_116 (by decide) ?_
  refine a_icmp_ne (tgt := 124) dX5_pairs_117 (by decide) (fun c => ?_) (fun c => ?_)
  · have h := h.1 c
    refine a_iconst (v := 0) dX5_pairs_124 (by decide) ?_
    refine a_sub [1, 2, 4, 5, 6, 7, 0] rfl ?_
    exact s5_pairs_c125 hK49 hK34 _ _ _ _ _ _ _ _ _ h
  · have h := h.2 c
    refine a_iconst (v := 1) dX5_pairs_120 (by decide) ?_
    refine a_goto (tgt := 125) dX5_pairs_121 (by decide) ?_
    refine a_sub [1, 2, 4, 5, 6, 7, 0] rfl ?_
    exact s5_pairs_c125 hK49 hK34 _ _ _ _ _ _ _ _ _ h
set_option maxHeartbeats 4000000 in
set_option maxRecDepth 100000 in
theorem s5_pairs_c83 {G : GG} {K49 : Int32 → Int32 → Int32 → Int32 → Int32 → Int32 → MM → Prop} {K34 : Int32 → Int32 → Int32 → Int32 → Int32 → MM → Prop} {Q : Int32 → MM → Prop} (hK49 : ∀ (x1 : Int32) (x2 : Int32) (x3 : Int32) (x4 : Int32) (x5 : Int32) (x6 : Int32) (M : MM), K49 x1 x2 x3 x4 x5 x6 M → A5_pairs G Q 49 [(0, .ref (gA G 62)), (1, .int x1), (2, .int x2), (3, .int x3), (4, .int x4), (5, .int x5), (6, .int x6)] [] M) (hK34 : ∀ (x1 : Int32) (x2 : Int32) (x3 : Int32) (x4 : Int32) (x5 : Int32) (M : MM), K34 x1 x2 x3 x4 x5 M → A5_pairs G Q 34 [(0, .ref (gA G 62)), (1, .int x1), (2, .int x2), (3, .int x3), (4, .int x4), (5, .int x5)] [] M) : ∀ (x1 : Int32) (x2 : Int32) (x3 : Int32) (x4 : Int32) (x5 : Int32) (x6 : Int32) (s0 : Int32) (M : MM), D5_pairs_c83 K49 K34 Q x1 x2 x3 x4 x5 x6 s0 M → A5_pairs G Q 83 [(0, .ref (gA G 62)), (1, .int x1), (2, .int x2), (3, .int x3), (4, .int x4), (5, .int x5), (6, .int x6)] [.int s0] M := by
  intro x1 x2 x3 x4 x5 x6 s0 M h
  unfold D5_pairs_c83 at h
  refine a_istore (i := 7) (L' := [(7, .int _), (0, .ref _), (1, .int _), (2, .int _), (3, .int _), (4, .int _), (5, .int _), (6, .int _)]) dX5_pairs_83 (by decide) rfl ?_
  refine a_iload dX5_pairs_85 0 rfl ?_
  refine a_if_eq (tgt := 110) dX5_pairs_87 (by decide) (fun c => ?_) (fun c => ?_)
  · have h := h.1 c
    refine a_iconst (v := 0) dX5_pairs_110 (by decide) ?_
    refine a_sub [1, 2, 3, 4, 5, 6, 7] rfl ?_
    exact s5_pairs_c111 hK49 hK34 _ _ _ _ _ _ _ _ h
  · have h := h.2 c
    refine a_aload_n dX5_pairs_90 1 rfl ?_
    refine a_get3 dX5_pairs_91 3 (by decide) (tbc _ kF_RX5_16) (fun w h => tbc _ (uW3 w h)) rfl ob_62 rfl ?_
    refine a_iload dX5_pairs_94 6 rfl ?_
    refine a_iald dX5_pairs_96 h.1 ?_
    have h := h.2
    refine a_aload_n dX5_pairs_97 1 rfl ?_
    refine a_get3 dX5_pairs_98 3 (by decide) (tbc _ kF_RX5_16) (fun w h => tbc _ (uW3 w h)) rfl ob_62 rfl ?_
    refine a_iload dX5_pairs_101 7 rfl ?_
    refine a_iald dX5_pairs_103 h.1 ?_
    have h := h.2
    refine a_callSi (n := 2) [.int _, .int _] dX5_pairs_104 (s5_stepsOf h) (gS tbc kM_RX5_283_X5_stepsOf kT_X5_stepsOf kN_RX5 kC_X5_stepsOf) rfl (by decide +kernel) ⟨Nat.le_of_ble_eq_true rfl, Nat.le_of_ble_eq_true rfl⟩ rfl rfl (Nat.le_of_ble_eq_true rfl) ⟨Nat.le_refl 0, Nat.le_refl 0⟩ (fun r M h => ?_)
    refine a_goto (tgt := 111) dX5_pairs_107 (by decide) ?_
    refine a_sub [1, 2, 3, 4, 5, 6, 7] rfl ?_
    exact s5_pairs_c111 hK49 hK34 _ _ _ _ _ _ _ _ h
set_option maxHeartbeats 4000000 in
set_option maxRecDepth 100000 in
theorem s5_pairs_c82 {G : GG} {K49 : Int32 → Int32 → Int32 → Int32 → Int32 → Int32 → MM → Prop} {K34 : Int32 → Int32 → Int32 → Int32 → Int32 → MM → Prop} {Q : Int32 → MM → Prop} (hK49 : ∀ (x1 : Int32) (x2 : Int32) (x3 : Int32) (x4 : Int32) (x5 : Int32) (x6 : Int32) (M : MM), K49 x1 x2 x3 x4 x5 x6 M → A5_pairs G Q 49 [(0, .ref (gA G 62)), (1, .int x1), (2, .int x2), (3, .int x3), (4, .int x4), (5, .int x5), (6, .int x6)] [] M) (hK34 : ∀ (x1 : Int32) (x2 : Int32) (x3 : Int32) (x4 : Int32) (x5 : Int32) (M : MM), K34 x1 x2 x3 x4 x5 M → A5_pairs G Q 34 [(0, .ref (gA G 62)), (1, .int x1), (2, .int x2), (3, .int x3), (4, .int x4), (5, .int x5)] [] M) : ∀ (x1 : Int32) (x2 : Int32) (x3 : Int32) (x4 : Int32) (x5 : Int32) (x6 : Int32) (M : MM), D5_pairs_c82 K49 K34 Q x1 x2 x3 x4 x5 x6 M → A5_pairs G Q 82 [(0, .ref (gA G 62)), (1, .int x1), (2, .int x2), (3, .int x3), (4, .int x4), (5, .int x5), (6, .int x6)] [] M := by
  intro x1 x2 x3 x4 x5 x6 M h
  unfold D5_pairs_c82 at h
  refine a_iconst (v := 0) dX5_pairs_82 (by decide) ?_
  refine a_sub [0, 1, 2, 3, 4, 5, 6] rfl ?_
  exact s5_pairs_c83 hK49 hK34 _ _ _ _ _ _ _ _ h
set_option maxHeartbeats 4000000 in
set_option maxRecDepth 100000 in
theorem s5_pairs_c146 {G : GG} {K34 : Int32 → Int32 → Int32 → Int32 → Int32 → MM → Prop} {Q : Int32 → MM → Prop} (hK34 : ∀ (x1 : Int32) (x2 : Int32) (x3 : Int32) (x4 : Int32) (x5 : Int32) (M : MM), K34 x1 x2 x3 x4 x5 M → A5_pairs G Q 34 [(0, .ref (gA G 62)), (1, .int x1), (2, .int x2), (3, .int x3), (4, .int x4), (5, .int x5)] [] M) : ∀ (x1 : Int32) (x2 : Int32) (x3 : Int32) (x4 : Int32) (x5 : Int32) (M : MM), D5_pairs_c146 K34 Q x1 x2 x3 x4 x5 M → A5_pairs G Q 146 [(0, .ref (gA G 62)), (1, .int x1), (2, .int x2), (3, .int x3), (4, .int x4), (5, .int x5)] [] M := by
  intro x1 x2 x3 x4 x5 M h
  unfold D5_pairs_c146 at h
  refine a_iinc (L' := [(5, .int _), (0, .ref _), (1, .int _), (2, .int _), (3, .int _), (4, .int _)]) dX5_pairs_146 5 rfl (show _ + Int32.ofInt (1 : Int) = _ + (1 : Int32) from rfl) (by decide) rfl ?_
  refine a_goto (tgt := 34) dX5_pairs_149 (by decide) ?_
  refine a_sub [1, 2, 3, 4, 5, 0] rfl ?_
  exact hK34 _ _ _ _ _ _ h
set_option maxHeartbeats 4000000 in
set_option maxRecDepth 100000 in
theorem s5_pairs_c49 {G : GG} {K34 : Int32 → Int32 → Int32 → Int32 → Int32 → MM → Prop} {Q : Int32 → MM → Prop} (hK34 : ∀ (x1 : Int32) (x2 : Int32) (x3 : Int32) (x4 : Int32) (x5 : Int32) (M : MM), K34 x1 x2 x3 x4 x5 M → A5_pairs G Q 34 [(0, .ref (gA G 62)), (1, .int x1), (2, .int x2), (3, .int x3), (4, .int x4), (5, .int x5)] [] M) : ∀ (n : Nat) (x1 : Int32) (x2 : Int32) (x3 : Int32) (x4 : Int32) (x5 : Int32) (x6 : Int32) (M : MM), D5_pairs_c49 K34 Q n x1 x2 x3 x4 x5 x6 M → A5_pairs G Q 49 [(0, .ref (gA G 62)), (1, .int x1), (2, .int x2), (3, .int x3), (4, .int x4), (5, .int x5), (6, .int x6)] [] M := by
  intro n
  induction n with
  | zero => intro x1 x2 x3 x4 x5 x6 M h; exact h.elim
  | succ n ih =>
    intro x1 x2 x3 x4 x5 x6 M h
    unfold D5_pairs_c49 at h
    refine a_iload dX5_pairs_49 6 rfl ?_
    refine a_aload_n dX5_pairs_51 0 rfl ?_
    refine a_get3 dX5_pairs_52 0 (by decide) (tbc _ kF_RX5_77) (fun w h => tbc _ (uW3 w h)) rfl ob_62 rfl ?_
    refine a_icmp_ge (tgt := 146) dX5_pairs_55 (by decide) (fun c => ?_) (fun c => ?_)
    · have h := h.1 c
      refine a_sub [0, 1, 2, 3, 4, 5] rfl ?_
      exact s5_pairs_c146 hK34 _ _ _ _ _ _ h
    · have h := h.2 c
      refine a_aload_n dX5_pairs_58 0 rfl ?_
      refine a_get3 dX5_pairs_59 5 (by decide) (tbc _ kF_RX5_22) (fun w h => tbc _ (uW3 w h)) rfl ob_62 rfl ?_
      refine a_iload dX5_pairs_62 5 rfl ?_
      refine a_iald dX5_pairs_64 h.1 ?_
      have h := h.2
      refine a_if_ne (tgt := 82) dX5_pairs_65 (by decide) (fun c => ?_) (fun c => ?_)
      · have h := h.1 c
        refine a_sub [0, 1, 2, 3, 4, 5, 6] rfl ?_
        exact s5_pairs_c82 ih hK34 _ _ _ _ _ _ _ h
      · have h := h.2 c
        refine a_aload_n dX5_pairs_68 0 rfl ?_
        refine a_get3 dX5_pairs_69 5 (by decide) (tbc _ kF_RX5_22) (fun w h => tbc _ (uW3 w h)) rfl ob_62 rfl ?_
        refine a_iload dX5_pairs_72 6 rfl ?_
        refine a_iald dX5_pairs_74 h.1 ?_
        have h := h.2
        refine a_if_ne (tgt := 82) dX5_pairs_75 (by decide) (fun c => ?_) (fun c => ?_)
        · have h := h.1 c
          refine a_sub [0, 1, 2, 3, 4, 5, 6] rfl ?_
          exact s5_pairs_c82 ih hK34 _ _ _ _ _ _ _ h
        · have h := h.2 c
          refine a_iconst (v := 1) dX5_pairs_78 (by decide) ?_
          refine a_goto (tgt := 83) dX5_pairs_79 (by decide) ?_
          refine a_sub [0, 1, 2, 3, 4, 5, 6] rfl ?_
          exact s5_pairs_c83 ih hK34 _ _ _ _ _ _ _ _ h
set_option maxHeartbeats 4000000 in
set_option maxRecDepth 100000 in
theorem s5_pairs_c181 {G : GG} {K155 : Int32 → Int32 → Int32 → Int32 → Int32 → MM → Prop} {Q : Int32 → MM → Prop} (hK155 : ∀ (x1 : Int32) (x2 : Int32) (x3 : Int32) (x4 : Int32) (x5 : Int32) (M : MM), K155 x1 x2 x3 x4 x5 M → A5_pairs G Q 155 [(0, .ref (gA G 62)), (1, .int x1), (2, .int x2), (3, .int x3), (4, .int x4), (5, .int x5)] [] M) : ∀ (x1 : Int32) (x2 : Int32) (x3 : Int32) (x5 : Int32) (s0 : Int32) (s1 : Int32) (M : MM), D5_pairs_c181 K155 Q x1 x2 x3 x5 s0 s1 M → A5_pairs G Q 181 [(0, .ref (gA G 62)), (1, .int x1), (2, .int x2), (3, .int x3), (5, .int x5)] [.int s0, .int s1] M := by
  intro x1 x2 x3 x5 s0 s1 M h
  unfold D5_pairs_c181 at h
  refine a_ior dX5_pairs_181 ?_
  refine a_istore (i := 4) (L' := [(4, .int _), (0, .ref _), (1, .int _), (2, .int _), (3, .int _), (5, .int _)]) dX5_pairs_182 (by decide) rfl ?_
  refine a_iinc (L' := [(5, .int _), (4, .int _), (0, .ref _), (1, .int _), (2, .int _), (3, .int _)]) dX5_pairs_184 5 rfl (show _ + Int32.ofInt (1 : Int) = _ + (1 : Int32) from rfl) (by decide) rfl ?_
  refine a_goto (tgt := 155) dX5_pairs_187 (by decide) ?_
  refine a_sub [2, 3, 4, 5, 1, 0] rfl ?_
  exact hK155 _ _ _ _ _ _ h
set_option maxHeartbeats 4000000 in
set_option maxRecDepth 100000 in
theorem s5_pairs_c190 {G : GG} {Q : Int32 → MM → Prop} : ∀ (x1 : Int32) (x2 : Int32) (x3 : Int32) (x4 : Int32) (M : MM), D5_pairs_c190 Q x1 x2 x3 x4 M → A5_pairs G Q 190 [(1, .int x1), (2, .int x2), (3, .int x3), (4, .int x4)] [] M := by
  intro x1 x2 x3 x4 M h
  unfold D5_pairs_c190 at h
  refine a_iload_n dX5_pairs_190 0 rfl ?_
  refine a_if_ne (tgt := 198) dX5_pairs_191 (by decide) (fun c => ?_) (fun c => ?_)
  · have h := h.1 c
    refine a_iload_n dX5_pairs_198 0 rfl ?_
    refine a_iconst (v := 1) dX5_pairs_199 (by decide) ?_
    refine a_icmp_ne (tgt := 207) dX5_pairs_200 (by decide) (fun c => ?_) (fun c => ?_)
    · have h := h.1 c
      refine a_iload dX5_pairs_207 3 rfl ?_
      exact a_iret dX5_pairs_209 ⟨_, rfl, h⟩
    · have h := h.2 c
      refine a_iload_n dX5_pairs_203 2 rfl ?_
      refine a_goto (tgt := 209) dX5_pairs_204 (by decide) ?_
      exact a_iret dX5_pairs_209 ⟨_, rfl, h⟩
  · have h := h.2 c
    refine a_iload_n dX5_pairs_194 1 rfl ?_
    refine a_goto (tgt := 209) dX5_pairs_195 (by decide) ?_
    exact a_iret dX5_pairs_209 ⟨_, rfl, h⟩
set_option maxHeartbeats 4000000 in
set_option maxRecDepth 100000 in
theorem s5_pairs_c155 {G : GG} {Q : Int32 → MM → Prop} : ∀ (n : Nat) (x1 : Int32) (x2 : Int32) (x3 : Int32) (x4 : Int32) (x5 : Int32) (M : MM), D5_pairs_c155 Q n x1 x2 x3 x4 x5 M → A5_pairs G Q 155 [(0, .ref (gA G 62)), (1, .int x1), (2, .int x2), (3, .int x3), (4, .int x4), (5, .int x5)] [] M := by
  intro n
  induction n with
  | zero => intro x1 x2 x3 x4 x5 M h; exact h.elim
  | succ n ih =>
    intro x1 x2 x3 x4 x5 M h
    unfold D5_pairs_c155 at h
    refine a_iload dX5_pairs_155 5 rfl ?_
    refine a_bipush (v := 25) dX5_pairs_157 (by decide) ?_
    refine a_icmp_ge (tgt := 190) dX5_pairs_159 (by decide) (fun c => ?_) (fun c => ?_)
    · have h := h.1 c
      refine a_sub [1, 2, 3, 4] rfl ?_
      exact s5_pairs_c190 _ _ _ _ _ h
    · have h := h.2 c
      refine a_iload dX5_pairs_162 4 rfl ?_
      refine a_aload_n dX5_pairs_164 0 rfl ?_
      refine a_iload dX5_pairs_165 5 rfl ?_
      refine a_callVi (n := 1) [.int _] (C := RX5) (ci := 3) (qc := (RX5, TX5, 40)) (fsF := fl3 G _) ob_62.1 (fun _ => en3 ob_62.2) rfl rfl dX5_pairs_167 (s5_workAt h) (gV tbc kM_RX5_188_X5_workAt kI_X5_workAt kS_X5_workAt kN_RX5 kC_X5_workAt) rfl (by decide +kernel) ⟨Nat.le_of_ble_eq_true rfl, Nat.le_of_ble_eq_true rfl⟩ rfl rfl (Nat.le_of_ble_eq_true rfl) ⟨Nat.le_refl 0, Nat.le_refl 0⟩ (fun r M h => ?_)
      refine a_if_ge (tgt := 180) dX5_pairs_170 (by decide) (fun c => ?_) (fun c => ?_)
      · have h := h.1 c
        refine a_iconst (v := 0) dX5_pairs_180 (by decide) ?_
        refine a_sub [0, 1, 2, 3, 5] rfl ?_
        exact s5_pairs_c181 ih _ _ _ _ _ _ _ h
      · have h := h.2 c
        refine a_iconst (v := 1) dX5_pairs_173 (by decide) ?_
        refine a_iload dX5_pairs_174 5 rfl ?_
        refine a_ishl dX5_pairs_176 ?_
        refine a_goto (tgt := 181) dX5_pairs_177 (by decide) ?_
        refine a_sub [0, 1, 2, 3, 5] rfl ?_
        exact s5_pairs_c181 ih _ _ _ _ _ _ _ h
set_option maxHeartbeats 4000000 in
set_option maxRecDepth 100000 in
theorem s5_pairs_c152 {G : GG} {Q : Int32 → MM → Prop} : ∀ (x1 : Int32) (x2 : Int32) (x3 : Int32) (x4 : Int32) (M : MM), D5_pairs_c152 Q x1 x2 x3 x4 M → A5_pairs G Q 152 [(0, .ref (gA G 62)), (1, .int x1), (2, .int x2), (3, .int x3), (4, .int x4)] [] M := by
  intro x1 x2 x3 x4 M h
  unfold D5_pairs_c152 at h
  refine a_iconst (v := 0) dX5_pairs_152 (by decide) ?_
  refine a_istore (i := 5) (L' := [(5, .int _), (0, .ref _), (1, .int _), (2, .int _), (3, .int _), (4, .int _)]) dX5_pairs_153 (by decide) rfl ?_
  refine a_sub [1, 2, 3, 4, 5, 0] rfl ?_
  exact s5_pairs_c155 _ _ _ _ _ _ _ h
set_option maxHeartbeats 4000000 in
set_option maxRecDepth 100000 in
theorem s5_pairs_c34 {G : GG} {Q : Int32 → MM → Prop} : ∀ (n : Nat) (x1 : Int32) (x2 : Int32) (x3 : Int32) (x4 : Int32) (x5 : Int32) (M : MM), D5_pairs_c34 Q n x1 x2 x3 x4 x5 M → A5_pairs G Q 34 [(0, .ref (gA G 62)), (1, .int x1), (2, .int x2), (3, .int x3), (4, .int x4), (5, .int x5)] [] M := by
  intro n
  induction n with
  | zero => intro x1 x2 x3 x4 x5 M h; exact h.elim
  | succ n ih =>
    intro x1 x2 x3 x4 x5 M h
    unfold D5_pairs_c34 at h
    refine a_iload dX5_pairs_34 5 rfl ?_
    refine a_aload_n dX5_pairs_36 0 rfl ?_
    refine a_get3 dX5_pairs_37 0 (by decide) (tbc _ kF_RX5_77) (fun w h => tbc _ (uW3 w h)) rfl ob_62 rfl ?_
    refine a_icmp_ge (tgt := 152) dX5_pairs_40 (by decide) (fun c => ?_) (fun c => ?_)
    · have h := h.1 c
      refine a_sub [0, 1, 2, 3, 4] rfl ?_
      exact s5_pairs_c152 _ _ _ _ _ h
    · have h := h.2 c
      refine a_iload dX5_pairs_43 5 rfl ?_
      refine a_iconst (v := 1) dX5_pairs_45 (by decide) ?_
      refine a_iadd dX5_pairs_46 ?_
      refine a_istore (i := 6) (L' := [(6, .int _), (0, .ref _), (1, .int _), (2, .int _), (3, .int _), (4, .int _), (5, .int _)]) dX5_pairs_47 (by decide) rfl ?_
      refine a_sub [1, 2, 3, 4, 5, 6, 0] rfl ?_
      exact s5_pairs_c49 ih _ _ _ _ _ _ _ _ h
set_option maxHeartbeats 4000000 in
set_option maxRecDepth 100000 in
theorem s5_pairs {G : GG} {x1 : Int32} {M : MM} {Q : Int32 → MM → Prop} (h : D5_pairs x1 M Q) : CM G yX5_pairs (WY yX5_pairs cX5_pairs 9 (some .int)) 1 25 [.ref (gA G 62), .int x1] M (qI Q) := by
  refine CM.of (cc := cX5_pairs) (nL := 9) (ret := (some .int)) (own := RX5) (by decide +kernel) rfl rfl (Nat.le_of_ble_eq_true rfl) ?_
  show A5_pairs G Q 0 [(0, .ref (gA G 62)), (1, .int x1)] [] M
  unfold D5_pairs at h
  refine a_aload_n dX5_pairs_0 0 rfl ?_
  refine a_iconst (v := 0) dX5_pairs_1 (by decide) ?_
  refine a_put3 dX5_pairs_2 9 (by decide) (tbc _ kF_RX5_73) (fun w h => tbc _ (uW3 w h)) rfl rfl rfl rfl ob_62 fs3_9 ?_
  refine a_iload_n dX5_pairs_5 1 rfl ?_
  refine a_i2l dX5_pairs_6 ?_
  refine a_lconst (v := 0) dX5_pairs_7 (by decide) ?_
  refine a_ldc2 dX5_pairs_8 (tbc _ kL_RX5_330) ?_
  refine a_callSi (n := 3) [.long _, .long _, .long _] dX5_pairs_11 (s5_in h) (gS tbc kM_RX5_80_X5_in kT_X5_in kN_RX5 kC_X5_in) rfl (by decide +kernel) ⟨Nat.le_of_ble_eq_true rfl, Nat.le_of_ble_eq_true rfl⟩ rfl rfl (Nat.le_of_ble_eq_true rfl) ⟨Nat.le_refl 0, Nat.le_refl 0⟩ (fun r M h => ?_)
  refine a_if_ne (tgt := 24) dX5_pairs_14 (by decide) (fun c => ?_) (fun c => ?_)
  · have h := h.1 c
    refine a_iconst (v := 0) dX5_pairs_24 (by decide) ?_
    refine a_istore_n (i := 2) (L' := [(2, .int _), (0, .ref _), (1, .int _)]) dX5_pairs_25 rfl (by decide) rfl ?_
    refine a_iconst (v := 0) dX5_pairs_26 (by decide) ?_
    refine a_istore_n (i := 3) (L' := [(3, .int _), (2, .int _), (0, .ref _), (1, .int _)]) dX5_pairs_27 rfl (by decide) rfl ?_
    refine a_iconst (v := 0) dX5_pairs_28 (by decide) ?_
    refine a_istore (i := 4) (L' := [(4, .int _), (3, .int _), (2, .int _), (0, .ref _), (1, .int _)]) dX5_pairs_29 (by decide) rfl ?_
    refine a_iconst (v := 0) dX5_pairs_31 (by decide) ?_
    refine a_istore (i := 5) (L' := [(5, .int _), (4, .int _), (3, .int _), (2, .int _), (0, .ref _), (1, .int _)]) dX5_pairs_32 (by decide) rfl ?_
    refine a_sub [4, 5, 3, 2, 1, 0] rfl ?_
    exact s5_pairs_c34 _ _ _ _ _ _ _ h
  · have h := h.2 c
    refine a_aload_n dX5_pairs_17 0 rfl ?_
    refine a_bipush (v := -2) dX5_pairs_18 (by decide) ?_
    refine a_callVi (n := 1) [.int _] (C := RX5) (ci := 3) (qc := (RX5, TX5, 40)) (fsF := fl3 G _) ob_62.1 (fun _ => en3 ob_62.2) rfl rfl dX5_pairs_20 (s5_refuse h) (gV tbc kM_RX5_149_X5_refuse kI_X5_refuse kS_X5_refuse kN_RX5 kC_X5_refuse) rfl (by decide +kernel) ⟨Nat.le_of_ble_eq_true rfl, Nat.le_of_ble_eq_true rfl⟩ rfl rfl (Nat.le_of_ble_eq_true rfl) ⟨Nat.le_refl 0, Nat.le_refl 0⟩ (fun r M h => ?_)
    exact a_iret dX5_pairs_23 ⟨_, rfl, h⟩
