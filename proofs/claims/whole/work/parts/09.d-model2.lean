/-! X5_levelAt -/
theorem dX5_levelAt_0 : decode cX5_levelAt 0 = .ok (.iload_n 0, 1) := by decide +kernel
theorem dX5_levelAt_1 : decode cX5_levelAt 1 = .ok (.bipush 12, 2) := by decide +kernel
theorem dX5_levelAt_3 : decode cX5_levelAt 3 = .ok (.irem, 1) := by decide +kernel
theorem dX5_levelAt_4 : decode cX5_levelAt 4 = .ok (.bipush 6, 2) := by decide +kernel
theorem dX5_levelAt_6 : decode cX5_levelAt 6 = .ok (.isub, 1) := by decide +kernel
theorem dX5_levelAt_7 : decode cX5_levelAt 7 = .ok (.istore_n 1, 1) := by decide +kernel
theorem dX5_levelAt_8 : decode cX5_levelAt 8 = .ok (.iconst 5, 1) := by decide +kernel
theorem dX5_levelAt_9 : decode cX5_levelAt 9 = .ok (.iload_n 1, 1) := by decide +kernel
theorem dX5_levelAt_10 : decode cX5_levelAt 10 = .ok (.ifCond .ge 8, 3) := by decide +kernel
theorem dX5_levelAt_13 : decode cX5_levelAt 13 = .ok (.iload_n 1, 1) := by decide +kernel
theorem dX5_levelAt_14 : decode cX5_levelAt 14 = .ok (.ineg, 1) := by decide +kernel
theorem dX5_levelAt_15 : decode cX5_levelAt 15 = .ok (.goto 4, 3) := by decide +kernel
theorem dX5_levelAt_18 : decode cX5_levelAt 18 = .ok (.iload_n 1, 1) := by decide +kernel
theorem dX5_levelAt_19 : decode cX5_levelAt 19 = .ok (.isub, 1) := by decide +kernel
theorem dX5_levelAt_20 : decode cX5_levelAt 20 = .ok (.iconst 5, 1) := by decide +kernel
theorem dX5_levelAt_21 : decode cX5_levelAt 21 = .ok (.invokestatic 86, 3) := by decide +kernel
theorem dX5_levelAt_24 : decode cX5_levelAt 24 = .ok (.ireturn, 1) := by decide +kernel
abbrev A5_levelAt (G : GG) (Q : Int32 → MM → Prop) := AW G E0 (MZ G (qI Q)) (WY yX5_levelAt cX5_levelAt 2 (some .int)) RX5 cX5_levelAt 2 (some .int) ({ frames := 1, cells := 0, slots := 0, locals := 21 } : Room) 0 0
def D5_levelAt_c19 (Q : Int32 → MM → Prop) (s0 : Int32) (s1 : Int32) (M : MM) : Prop := D5_held (s1 - s0) (5 : Int32) M (fun (r2 : Int32) (M3 : MM) => Q r2 M3)
def D5_levelAt (x0 : Int32) (M : MM) (Q : Int32 → MM → Prop) : Prop := (fun v1 : Int32 => ((0 ≤ v1 → D5_levelAt_c19 Q v1 (5 : Int32) M) ∧ (¬ 0 ≤ v1 → D5_levelAt_c19 Q (-v1) (5 : Int32) M))) ((x0 - x0 / (12 : Int32) * (12 : Int32)) - (6 : Int32))
set_option maxHeartbeats 4000000 in
set_option maxRecDepth 100000 in
theorem s5_levelAt_c19 {G : GG} {Q : Int32 → MM → Prop} : ∀ (s0 : Int32) (s1 : Int32) (M : MM), D5_levelAt_c19 Q s0 s1 M → A5_levelAt G Q 19 [] [.int s0, .int s1] M := by
  intro s0 s1 M h
  unfold D5_levelAt_c19 at h
  refine a_isub dX5_levelAt_19 ?_
  refine a_iconst (v := 5) dX5_levelAt_20 (by decide) ?_
  refine a_callSi (n := 2) [.int _, .int _] dX5_levelAt_21 (s5_held h) (gS tbc kM_RX5_86_X5_held kT_X5_held kN_RX5 kC_X5_held) rfl (by decide +kernel) ⟨Nat.le_of_ble_eq_true rfl, Nat.le_of_ble_eq_true rfl⟩ rfl rfl (Nat.le_of_ble_eq_true rfl) ⟨Nat.le_refl 0, Nat.le_refl 0⟩ (fun r M h => ?_)
  exact a_iret dX5_levelAt_24 ⟨_, rfl, h⟩
set_option maxHeartbeats 4000000 in
set_option maxRecDepth 100000 in
theorem s5_levelAt {G : GG} {x0 : Int32} {M : MM} {Q : Int32 → MM → Prop} (h : D5_levelAt x0 M Q) : CM G yX5_levelAt (WY yX5_levelAt cX5_levelAt 2 (some .int)) 1 21 [.int x0] M (qI Q) := by
  refine CM.of (cc := cX5_levelAt) (nL := 2) (ret := (some .int)) (own := RX5) (by decide +kernel) rfl rfl (Nat.le_of_ble_eq_true rfl) ?_
  show A5_levelAt G Q 0 [(0, .int x0)] [] M
  unfold D5_levelAt at h
  refine a_iload_n dX5_levelAt_0 0 rfl ?_
  refine a_bipush (v := 12) dX5_levelAt_1 (by decide) ?_
  refine a_irem dX5_levelAt_3 (by decide) ?_
  refine a_bipush (v := 6) dX5_levelAt_4 (by decide) ?_
  refine a_isub dX5_levelAt_6 ?_
  refine a_istore_n (i := 1) (L' := [(1, .int _), (0, .int _)]) dX5_levelAt_7 rfl (by decide) rfl ?_
  refine a_iconst (v := 5) dX5_levelAt_8 (by decide) ?_
  refine a_iload_n dX5_levelAt_9 0 rfl ?_
  refine a_if_ge (tgt := 18) dX5_levelAt_10 (by decide) (fun c => ?_) (fun c => ?_)
  · have h := h.1 c
    refine a_iload_n dX5_levelAt_18 0 rfl ?_
    refine a_sub [] rfl ?_
    exact s5_levelAt_c19 _ _ _ h
  · have h := h.2 c
    refine a_iload_n dX5_levelAt_13 0 rfl ?_
    refine a_ineg dX5_levelAt_14 ?_
    refine a_goto (tgt := 19) dX5_levelAt_15 (by decide) ?_
    refine a_sub [] rfl ?_
    exact s5_levelAt_c19 _ _ _ h

/-! X5_isWorn -/
theorem dX5_isWorn_0 : decode cX5_isWorn 0 = .ok (.aload_n 0, 1) := by decide +kernel
theorem dX5_isWorn_1 : decode cX5_isWorn 1 = .ok (.aload_n 0, 1) := by decide +kernel
theorem dX5_isWorn_2 : decode cX5_isWorn 2 = .ok (.getfield 16, 3) := by decide +kernel
theorem dX5_isWorn_5 : decode cX5_isWorn 5 = .ok (.iload_n 1, 1) := by decide +kernel
theorem dX5_isWorn_6 : decode cX5_isWorn 6 = .ok (.iaload, 1) := by decide +kernel
theorem dX5_isWorn_7 : decode cX5_isWorn 7 = .ok (.invokevirtual 111, 3) := by decide +kernel
theorem dX5_isWorn_10 : decode cX5_isWorn 10 = .ok (.istore_n 2, 1) := by decide +kernel
theorem dX5_isWorn_11 : decode cX5_isWorn 11 = .ok (.iconst 0, 1) := by decide +kernel
theorem dX5_isWorn_12 : decode cX5_isWorn 12 = .ok (.istore_n 3, 1) := by decide +kernel
theorem dX5_isWorn_13 : decode cX5_isWorn 13 = .ok (.iload_n 3, 1) := by decide +kernel
theorem dX5_isWorn_14 : decode cX5_isWorn 14 = .ok (.iconst 4, 1) := by decide +kernel
theorem dX5_isWorn_15 : decode cX5_isWorn 15 = .ok (.if_icmp .ge 45, 3) := by decide +kernel
theorem dX5_isWorn_18 : decode cX5_isWorn 18 = .ok (.aload_n 0, 1) := by decide +kernel
theorem dX5_isWorn_19 : decode cX5_isWorn 19 = .ok (.getfield 16, 3) := by decide +kernel
theorem dX5_isWorn_22 : decode cX5_isWorn 22 = .ok (.iload_n 1, 1) := by decide +kernel
theorem dX5_isWorn_23 : decode cX5_isWorn 23 = .ok (.iaload, 1) := by decide +kernel
theorem dX5_isWorn_24 : decode cX5_isWorn 24 = .ok (.iload_n 3, 1) := by decide +kernel
theorem dX5_isWorn_25 : decode cX5_isWorn 25 = .ok (.invokestatic 108, 3) := by decide +kernel
theorem dX5_isWorn_28 : decode cX5_isWorn 28 = .ok (.istore 4, 2) := by decide +kernel
theorem dX5_isWorn_30 : decode cX5_isWorn 30 = .ok (.iload_n 2, 1) := by decide +kernel
theorem dX5_isWorn_31 : decode cX5_isWorn 31 = .ok (.ifCond .ne 17, 3) := by decide +kernel
theorem dX5_isWorn_34 : decode cX5_isWorn 34 = .ok (.iload 4, 2) := by decide +kernel
theorem dX5_isWorn_36 : decode cX5_isWorn 36 = .ok (.ifCond .lt 16, 3) := by decide +kernel
theorem dX5_isWorn_39 : decode cX5_isWorn 39 = .ok (.aload_n 0, 1) := by decide +kernel
theorem dX5_isWorn_40 : decode cX5_isWorn 40 = .ok (.iload 4, 2) := by decide +kernel
theorem dX5_isWorn_42 : decode cX5_isWorn 42 = .ok (.invokevirtual 111, 3) := by decide +kernel
theorem dX5_isWorn_45 : decode cX5_isWorn 45 = .ok (.ifCond .eq 7, 3) := by decide +kernel
theorem dX5_isWorn_48 : decode cX5_isWorn 48 = .ok (.iconst 1, 1) := by decide +kernel
theorem dX5_isWorn_49 : decode cX5_isWorn 49 = .ok (.goto 4, 3) := by decide +kernel
theorem dX5_isWorn_52 : decode cX5_isWorn 52 = .ok (.iconst 0, 1) := by decide +kernel
theorem dX5_isWorn_53 : decode cX5_isWorn 53 = .ok (.istore_n 2, 1) := by decide +kernel
theorem dX5_isWorn_54 : decode cX5_isWorn 54 = .ok (.iinc 3 1, 3) := by decide +kernel
theorem dX5_isWorn_57 : decode cX5_isWorn 57 = .ok (.goto (-44), 3) := by decide +kernel
theorem dX5_isWorn_60 : decode cX5_isWorn 60 = .ok (.iload_n 2, 1) := by decide +kernel
theorem dX5_isWorn_61 : decode cX5_isWorn 61 = .ok (.ireturn, 1) := by decide +kernel
abbrev A5_isWorn (G : GG) (Q : Int32 → MM → Prop) := AW G E0 (MZ G (qI Q)) (WY yX5_isWorn cX5_isWorn 5 (some .boolean)) RX5 cX5_isWorn 5 (some .boolean) ({ frames := 2, cells := 0, slots := 0, locals := 42 } : Room) 0 0
def D5_isWorn_c53 (K13 : Int32 → Int32 → Int32 → MM → Prop) (Q : Int32 → MM → Prop) (x1 : Int32) (x3 : Int32) (s0 : Int32) (M : MM) : Prop := (fun v7 : Int32 => K13 x1 s0 v7 M) (x3 + (1 : Int32))
def D5_isWorn_c48 (K13 : Int32 → Int32 → Int32 → MM → Prop) (Q : Int32 → MM → Prop) (x1 : Int32) (x3 : Int32) (M : MM) : Prop := D5_isWorn_c53 K13 Q x1 x3 (1 : Int32) M
def D5_isWorn_c52 (K13 : Int32 → Int32 → Int32 → MM → Prop) (Q : Int32 → MM → Prop) (x1 : Int32) (x3 : Int32) (M : MM) : Prop := D5_isWorn_c53 K13 Q x1 x3 (0 : Int32) M
def D5_isWorn_c13 (Q : Int32 → MM → Prop) : Nat → Int32 → Int32 → Int32 → MM → Prop
  | 0, _, _, _, _ => False
  | n + 1, x1, x2, x3, M => (((4 : Int32) ≤ x3 → bo x2 ∧ Q x2 M) ∧ (¬ (4 : Int32) ≤ x3 → ib 65 x1 ∧ D5_beside (M 65 (ix x1)) x3 M (fun (r3 : Int32) (M4 : MM) => ((x2 ≠ 0 → D5_isWorn_c48 (D5_isWorn_c13 Q n) Q x1 x3 M4) ∧ (x2 = 0 → ((r3 < 0 → D5_isWorn_c52 (D5_isWorn_c13 Q n) Q x1 x3 M4) ∧ (¬ r3 < 0 → D5_isWet r3 M4 (fun (r5 : Int32) (M6 : MM) => ((r5 = 0 → D5_isWorn_c52 (D5_isWorn_c13 Q n) Q x1 x3 M6) ∧ (¬ r5 = 0 → D5_isWorn_c48 (D5_isWorn_c13 Q n) Q x1 x3 M6))))))))))
def D5_isWorn (x1 : Int32) (M : MM) (Q : Int32 → MM → Prop) : Prop := ib 65 x1 ∧ D5_isWet (M 65 (ix x1)) M (fun (r1 : Int32) (M2 : MM) => D5_isWorn_c13 Q FU x1 r1 (0 : Int32) M2)
set_option maxHeartbeats 4000000 in
set_option maxRecDepth 100000 in
theorem s5_isWorn_c53 {G : GG} {K13 : Int32 → Int32 → Int32 → MM → Prop} {Q : Int32 → MM → Prop} (hK13 : ∀ (x1 : Int32) (x2 : Int32) (x3 : Int32) (M : MM), K13 x1 x2 x3 M → A5_isWorn G Q 13 [(0, .ref (gA G 62)), (1, .int x1), (2, .int x2), (3, .int x3)] [] M) : ∀ (x1 : Int32) (x3 : Int32) (s0 : Int32) (M : MM), D5_isWorn_c53 K13 Q x1 x3 s0 M → A5_isWorn G Q 53 [(0, .ref (gA G 62)), (1, .int x1), (3, .int x3)] [.int s0] M := by
  intro x1 x3 s0 M h
  unfold D5_isWorn_c53 at h
  refine a_istore_n (i := 2) (L' := [(2, .int _), (0, .ref _), (1, .int _), (3, .int _)]) dX5_isWorn_53 rfl (by decide) rfl ?_
  refine a_iinc (L' := [(3, .int _), (2, .int _), (0, .ref _), (1, .int _)]) dX5_isWorn_54 3 rfl (show _ + Int32.ofInt (1 : Int) = _ + (1 : Int32) from rfl) (by decide) rfl ?_
  refine a_goto (tgt := 13) dX5_isWorn_57 (by decide) ?_
  refine a_sub [2, 3, 1, 0] rfl ?_
  exact hK13 _ _ _ _ h
set_option maxHeartbeats 4000000 in
set_option maxRecDepth 100000 in
theorem s5_isWorn_c48 {G : GG} {K13 : Int32 → Int32 → Int32 → MM → Prop} {Q : Int32 → MM → Prop} (hK13 : ∀ (x1 : Int32) (x2 : Int32) (x3 : Int32) (M : MM), K13 x1 x2 x3 M → A5_isWorn G Q 13 [(0, .ref (gA G 62)), (1, .int x1), (2, .int x2), (3, .int x3)] [] M) : ∀ (x1 : Int32) (x3 : Int32) (M : MM), D5_isWorn_c48 K13 Q x1 x3 M → A5_isWorn G Q 48 [(0, .ref (gA G 62)), (1, .int x1), (3, .int x3)] [] M := by
  intro x1 x3 M h
  unfold D5_isWorn_c48 at h
  refine a_iconst (v := 1) dX5_isWorn_48 (by decide) ?_
  refine a_goto (tgt := 53) dX5_isWorn_49 (by decide) ?_
  refine a_sub [0, 1, 2] rfl ?_
  exact s5_isWorn_c53 hK13 _ _ _ _ h
set_option maxHeartbeats 4000000 in
set_option maxRecDepth 100000 in
theorem s5_isWorn_c52 {G : GG} {K13 : Int32 → Int32 → Int32 → MM → Prop} {Q : Int32 → MM → Prop} (hK13 : ∀ (x1 : Int32) (x2 : Int32) (x3 : Int32) (M : MM), K13 x1 x2 x3 M → A5_isWorn G Q 13 [(0, .ref (gA G 62)), (1, .int x1), (2, .int x2), (3, .int x3)] [] M) : ∀ (x1 : Int32) (x3 : Int32) (M : MM), D5_isWorn_c52 K13 Q x1 x3 M → A5_isWorn G Q 52 [(0, .ref (gA G 62)), (1, .int x1), (3, .int x3)] [] M := by
  intro x1 x3 M h
  unfold D5_isWorn_c52 at h
  refine a_iconst (v := 0) dX5_isWorn_52 (by decide) ?_
  refine a_sub [0, 1, 2] rfl ?_
  exact s5_isWorn_c53 hK13 _ _ _ _ h
set_option maxHeartbeats 4000000 in
set_option maxRecDepth 100000 in
theorem s5_isWorn_c13 {G : GG} {Q : Int32 → MM → Prop} : ∀ (n : Nat) (x1 : Int32) (x2 : Int32) (x3 : Int32) (M : MM), D5_isWorn_c13 Q n x1 x2 x3 M → A5_isWorn G Q 13 [(0, .ref (gA G 62)), (1, .int x1), (2, .int x2), (3, .int x3)] [] M := by
  intro n
  induction n with
  | zero => intro x1 x2 x3 M h; exact h.elim
  | succ n ih =>
    intro x1 x2 x3 M h
    unfold D5_isWorn_c13 at h
    refine a_iload_n dX5_isWorn_13 3 rfl ?_
    refine a_iconst (v := 4) dX5_isWorn_14 (by decide) ?_
    refine a_icmp_ge (tgt := 60) dX5_isWorn_15 (by decide) (fun c => ?_) (fun c => ?_)
    · have h := h.1 c
      refine a_iload_n dX5_isWorn_60 2 rfl ?_
      exact a_zret dX5_isWorn_61 h.1 ⟨_, rfl, h.2⟩
    · have h := h.2 c
      refine a_aload_n dX5_isWorn_18 0 rfl ?_
      refine a_get3 dX5_isWorn_19 3 (by decide) (tbc _ kF_RX5_16) (fun w h => tbc _ (uW3 w h)) rfl ob_62 rfl ?_
      refine a_iload_n dX5_isWorn_22 1 rfl ?_
      refine a_iald dX5_isWorn_23 h.1 ?_
      have h := h.2
      refine a_iload_n dX5_isWorn_24 3 rfl ?_
      refine a_callSi (n := 2) [.int _, .int _] dX5_isWorn_25 (s5_beside h) (gS tbc kM_RX5_108_X5_beside kT_X5_beside kN_RX5 kC_X5_beside) rfl (by decide +kernel) ⟨Nat.le_of_ble_eq_true rfl, Nat.le_of_ble_eq_true rfl⟩ rfl rfl (Nat.le_of_ble_eq_true rfl) ⟨Nat.le_refl 0, Nat.le_refl 0⟩ (fun r M h => ?_)
      refine a_istore (i := 4) (L' := [(4, .int _), (0, .ref _), (1, .int _), (2, .int _), (3, .int _)]) dX5_isWorn_28 (by decide) rfl ?_
      refine a_iload_n dX5_isWorn_30 3 rfl ?_
      refine a_if_ne (tgt := 48) dX5_isWorn_31 (by decide) (fun c => ?_) (fun c => ?_)
      · have h := h.1 c
        refine a_sub [1, 2, 4] rfl ?_
        exact s5_isWorn_c48 ih _ _ _ h
      · have h := h.2 c
        refine a_iload dX5_isWorn_34 0 rfl ?_
        refine a_if_lt (tgt := 52) dX5_isWorn_36 (by decide) (fun c => ?_) (fun c => ?_)
        · have h := h.1 c
          refine a_sub [1, 2, 4] rfl ?_
          exact s5_isWorn_c52 ih _ _ _ h
        · have h := h.2 c
          refine a_aload_n dX5_isWorn_39 1 rfl ?_
          refine a_iload dX5_isWorn_40 0 rfl ?_
          refine a_callVi (n := 1) [.int _] (C := RX5) (ci := 3) (qc := (RX5, TX5, 40)) (fsF := fl3 G _) ob_62.1 (fun _ => en3 ob_62.2) rfl rfl dX5_isWorn_42 (s5_isWet h) (gV tbc kM_RX5_111_X5_isWet kI_X5_isWet kS_X5_isWet kN_RX5 kC_X5_isWet) rfl (by decide +kernel) ⟨Nat.le_of_ble_eq_true rfl, Nat.le_of_ble_eq_true rfl⟩ rfl rfl (Nat.le_of_ble_eq_true rfl) ⟨Nat.le_refl 0, Nat.le_refl 0⟩ (fun r M h => ?_)
          refine a_if_eq (tgt := 52) dX5_isWorn_45 (by decide) (fun c => ?_) (fun c => ?_)
          · have h := h.1 c
            refine a_sub [1, 2, 4] rfl ?_
            exact s5_isWorn_c52 ih _ _ _ h
          · have h := h.2 c
            refine a_sub [1, 2, 4] rfl ?_
            exact s5_isWorn_c48 ih _ _ _ h
set_option maxHeartbeats 4000000 in
set_option maxRecDepth 100000 in
theorem s5_isWorn {G : GG} {x1 : Int32} {M : MM} {Q : Int32 → MM → Prop} (h : D5_isWorn x1 M Q) : CM G yX5_isWorn (WY yX5_isWorn cX5_isWorn 5 (some .boolean)) 2 42 [.ref (gA G 62), .int x1] M (qI Q) := by
  refine CM.of (cc := cX5_isWorn) (nL := 5) (ret := (some .boolean)) (own := RX5) (by decide +kernel) rfl rfl (Nat.le_of_ble_eq_true rfl) ?_
  show A5_isWorn G Q 0 [(0, .ref (gA G 62)), (1, .int x1)] [] M
  unfold D5_isWorn at h
  refine a_aload_n dX5_isWorn_0 0 rfl ?_
  refine a_aload_n dX5_isWorn_1 0 rfl ?_
  refine a_get3 dX5_isWorn_2 3 (by decide) (tbc _ kF_RX5_16) (fun w h => tbc _ (uW3 w h)) rfl ob_62 rfl ?_
  refine a_iload_n dX5_isWorn_5 1 rfl ?_
  refine a_iald dX5_isWorn_6 h.1 ?_
  have h := h.2
  refine a_callVi (n := 1) [.int _] (C := RX5) (ci := 3) (qc := (RX5, TX5, 40)) (fsF := fl3 G _) ob_62.1 (fun _ => en3 ob_62.2) rfl rfl dX5_isWorn_7 (s5_isWet h) (gV tbc kM_RX5_111_X5_isWet kI_X5_isWet kS_X5_isWet kN_RX5 kC_X5_isWet) rfl (by decide +kernel) ⟨Nat.le_of_ble_eq_true rfl, Nat.le_of_ble_eq_true rfl⟩ rfl rfl (Nat.le_of_ble_eq_true rfl) ⟨Nat.le_refl 0, Nat.le_refl 0⟩ (fun r M h => ?_)
  refine a_istore_n (i := 2) (L' := [(2, .int _), (0, .ref _), (1, .int _)]) dX5_isWorn_10 rfl (by decide) rfl ?_
  refine a_iconst (v := 0) dX5_isWorn_11 (by decide) ?_
  refine a_istore_n (i := 3) (L' := [(3, .int _), (2, .int _), (0, .ref _), (1, .int _)]) dX5_isWorn_12 rfl (by decide) rfl ?_
  refine a_sub [2, 3, 1, 0] rfl ?_
  exact s5_isWorn_c13 _ _ _ _ _ h

/-! X5_letsOf -/
theorem dX5_letsOf_0 : decode cX5_letsOf 0 = .ok (.aload_n 0, 1) := by decide +kernel
theorem dX5_letsOf_1 : decode cX5_letsOf 1 = .ok (.getfield 13, 3) := by decide +kernel
theorem dX5_letsOf_4 : decode cX5_letsOf 4 = .ok (.iload_n 1, 1) := by decide +kernel
theorem dX5_letsOf_5 : decode cX5_letsOf 5 = .ok (.iaload, 1) := by decide +kernel
theorem dX5_letsOf_6 : decode cX5_letsOf 6 = .ok (.istore_n 2, 1) := by decide +kernel
theorem dX5_letsOf_7 : decode cX5_letsOf 7 = .ok (.aload_n 0, 1) := by decide +kernel
theorem dX5_letsOf_8 : decode cX5_letsOf 8 = .ok (.getfield 7, 3) := by decide +kernel
theorem dX5_letsOf_11 : decode cX5_letsOf 11 = .ok (.iload_n 1, 1) := by decide +kernel
theorem dX5_letsOf_12 : decode cX5_letsOf 12 = .ok (.iaload, 1) := by decide +kernel
theorem dX5_letsOf_13 : decode cX5_letsOf 13 = .ok (.tableswitch 50 1 5 #[35, 50, 37, 41, 44], 35) := by decide +kernel
theorem dX5_letsOf_48 : decode cX5_letsOf 48 = .ok (.iload_n 2, 1) := by decide +kernel
theorem dX5_letsOf_49 : decode cX5_letsOf 49 = .ok (.ireturn, 1) := by decide +kernel
theorem dX5_letsOf_50 : decode cX5_letsOf 50 = .ok (.iload_n 2, 1) := by decide +kernel
theorem dX5_letsOf_51 : decode cX5_letsOf 51 = .ok (.iconst 5, 1) := by decide +kernel
theorem dX5_letsOf_52 : decode cX5_letsOf 52 = .ok (.iadd, 1) := by decide +kernel
theorem dX5_letsOf_53 : decode cX5_letsOf 53 = .ok (.ireturn, 1) := by decide +kernel
theorem dX5_letsOf_54 : decode cX5_letsOf 54 = .ok (.bipush 7, 2) := by decide +kernel
theorem dX5_letsOf_56 : decode cX5_letsOf 56 = .ok (.ireturn, 1) := by decide +kernel
theorem dX5_letsOf_57 : decode cX5_letsOf 57 = .ok (.iconst 2, 1) := by decide +kernel
theorem dX5_letsOf_58 : decode cX5_letsOf 58 = .ok (.iload_n 2, 1) := by decide +kernel
theorem dX5_letsOf_59 : decode cX5_letsOf 59 = .ok (.imul, 1) := by decide +kernel
theorem dX5_letsOf_60 : decode cX5_letsOf 60 = .ok (.iconst 5, 1) := by decide +kernel
theorem dX5_letsOf_61 : decode cX5_letsOf 61 = .ok (.iadd, 1) := by decide +kernel
theorem dX5_letsOf_62 : decode cX5_letsOf 62 = .ok (.ireturn, 1) := by decide +kernel
theorem dX5_letsOf_63 : decode cX5_letsOf 63 = .ok (.iconst 0, 1) := by decide +kernel
theorem dX5_letsOf_64 : decode cX5_letsOf 64 = .ok (.ireturn, 1) := by decide +kernel
abbrev A5_letsOf (G : GG) (Q : Int32 → MM → Prop) := AW G E0 (MZ G (qI Q)) (WY yX5_letsOf cX5_letsOf 3 (some .int)) RX5 cX5_letsOf 3 (some .int) ({ frames := 0, cells := 0, slots := 0, locals := 0 } : Room) 0 0
def D5_letsOf (x1 : Int32) (M : MM) (Q : Int32 → MM → Prop) : Prop := ib 64 x1 ∧ (fun v1 : Int32 => ib 63 x1 ∧ (((M 63 (ix x1)) = 1 → Q v1 M) ∧ (¬ (M 63 (ix x1)) = 1 → (((M 63 (ix x1)) = 3 → Q (v1 + (5 : Int32)) M) ∧ (¬ (M 63 (ix x1)) = 3 → (((M 63 (ix x1)) = 4 → Q (7 : Int32) M) ∧ (¬ (M 63 (ix x1)) = 4 → (((M 63 (ix x1)) = 5 → Q (((2 : Int32) * v1) + (5 : Int32)) M) ∧ (¬ (M 63 (ix x1)) = 5 → Q (0 : Int32) M))))))))) (M 64 (ix x1))
set_option maxHeartbeats 4000000 in
set_option maxRecDepth 100000 in
theorem s5_letsOf {G : GG} {x1 : Int32} {M : MM} {Q : Int32 → MM → Prop} (h : D5_letsOf x1 M Q) : CM G yX5_letsOf (WY yX5_letsOf cX5_letsOf 3 (some .int)) 0 0 [.ref (gA G 62), .int x1] M (qI Q) := by
  refine CM.of (cc := cX5_letsOf) (nL := 3) (ret := (some .int)) (own := RX5) (by decide +kernel) rfl rfl (Nat.le_of_ble_eq_true rfl) ?_
  show A5_letsOf G Q 0 [(0, .ref (gA G 62)), (1, .int x1)] [] M
  unfold D5_letsOf at h
  refine a_aload_n dX5_letsOf_0 0 rfl ?_
  refine a_get3 dX5_letsOf_1 2 (by decide) (tbc _ kF_RX5_13) (fun w h => tbc _ (uW3 w h)) rfl ob_62 rfl ?_
  refine a_iload_n dX5_letsOf_4 1 rfl ?_
  refine a_iald dX5_letsOf_5 h.1 ?_
  have h := h.2
  refine a_istore_n (i := 2) (L' := [(2, .int _), (0, .ref _), (1, .int _)]) dX5_letsOf_6 rfl (by decide) rfl ?_
  refine a_aload_n dX5_letsOf_7 1 rfl ?_
  refine a_get3 dX5_letsOf_8 1 (by decide) (tbc _ kF_RX5_7) (fun w h => tbc _ (uW3 w h)) rfl ob_62 rfl ?_
  refine a_iload_n dX5_letsOf_11 2 rfl ?_
  refine a_iald dX5_letsOf_12 h.1 ?_
  have h := h.2
  refine em_c h (fun c1 h => ?_) (fun c1 h => ?_)
  · refine a_tableIn (off := 35) (tgt := 48) dX5_letsOf_13 (by rw [c1]; decide) (by rw [c1]; decide) (by rw [c1]; rfl) (by decide) ?_
    refine a_iload_n dX5_letsOf_48 0 rfl ?_
    exact a_iret dX5_letsOf_49 ⟨_, rfl, h⟩
  · refine em_c h (fun c3 h => ?_) (fun c3 h => ?_)
    · refine a_tableIn (off := 37) (tgt := 50) dX5_letsOf_13 (by rw [c3]; decide) (by rw [c3]; decide) (by rw [c3]; rfl) (by decide) ?_
      refine a_iload_n dX5_letsOf_50 0 rfl ?_
      refine a_iconst (v := 5) dX5_letsOf_51 (by decide) ?_
      refine a_iadd dX5_letsOf_52 ?_
      exact a_iret dX5_letsOf_53 ⟨_, rfl, h⟩
    · refine em_c h (fun c4 h => ?_) (fun c4 h => ?_)
      · refine a_tableIn (off := 41) (tgt := 54) dX5_letsOf_13 (by rw [c4]; decide) (by rw [c4]; decide) (by rw [c4]; rfl) (by decide) ?_
        refine a_bipush (v := 7) dX5_letsOf_54 (by decide) ?_
        exact a_iret dX5_letsOf_56 ⟨_, rfl, h⟩
      · refine em_c h (fun c5 h => ?_) (fun c5 h => ?_)
        · refine a_tableIn (off := 44) (tgt := 57) dX5_letsOf_13 (by rw [c5]; decide) (by rw [c5]; decide) (by rw [c5]; rfl) (by decide) ?_
          refine a_iconst (v := 2) dX5_letsOf_57 (by decide) ?_
          refine a_iload_n dX5_letsOf_58 0 rfl ?_
          refine a_imul dX5_letsOf_59 ?_
          refine a_iconst (v := 5) dX5_letsOf_60 (by decide) ?_
          refine a_iadd dX5_letsOf_61 ?_
          exact a_iret dX5_letsOf_62 ⟨_, rfl, h⟩
        · refine a_tableD (tgt := 63) dX5_letsOf_13 (by decide) (fun k h1 h2 e => by have hk : k = 1 ∨ k = 2 ∨ k = 3 ∨ k = 4 ∨ k = 5 := (by omega); rcases hk with rfl | rfl | rfl | rfl | rfl <;> first | rfl | exact absurd e (ne_ti c1 (by decide)) | exact absurd e (ne_ti c3 (by decide)) | exact absurd e (ne_ti c4 (by decide)) | exact absurd e (ne_ti c5 (by decide))) ?_
          refine a_iconst (v := 0) dX5_letsOf_63 (by decide) ?_
          exact a_iret dX5_letsOf_64 ⟨_, rfl, h⟩

/-! X5_holdsOf -/
theorem dX5_holdsOf_0 : decode cX5_holdsOf 0 = .ok (.aload_n 0, 1) := by decide +kernel
theorem dX5_holdsOf_1 : decode cX5_holdsOf 1 = .ok (.getfield 13, 3) := by decide +kernel
theorem dX5_holdsOf_4 : decode cX5_holdsOf 4 = .ok (.iload_n 1, 1) := by decide +kernel
theorem dX5_holdsOf_5 : decode cX5_holdsOf 5 = .ok (.iaload, 1) := by decide +kernel
theorem dX5_holdsOf_6 : decode cX5_holdsOf 6 = .ok (.iconst 3, 1) := by decide +kernel
theorem dX5_holdsOf_7 : decode cX5_holdsOf 7 = .ok (.idiv, 1) := by decide +kernel
theorem dX5_holdsOf_8 : decode cX5_holdsOf 8 = .ok (.iconst 1, 1) := by decide +kernel
theorem dX5_holdsOf_9 : decode cX5_holdsOf 9 = .ok (.iadd, 1) := by decide +kernel
theorem dX5_holdsOf_10 : decode cX5_holdsOf 10 = .ok (.istore_n 2, 1) := by decide +kernel
theorem dX5_holdsOf_11 : decode cX5_holdsOf 11 = .ok (.aload_n 0, 1) := by decide +kernel
theorem dX5_holdsOf_12 : decode cX5_holdsOf 12 = .ok (.getfield 7, 3) := by decide +kernel
theorem dX5_holdsOf_15 : decode cX5_holdsOf 15 = .ok (.iload_n 1, 1) := by decide +kernel
theorem dX5_holdsOf_16 : decode cX5_holdsOf 16 = .ok (.iaload, 1) := by decide +kernel
theorem dX5_holdsOf_17 : decode cX5_holdsOf 17 = .ok (.tableswitch 64 0 5 #[39, 64, 41, 50, 64, 56], 39) := by decide +kernel
theorem dX5_holdsOf_56 : decode cX5_holdsOf 56 = .ok (.iload_n 2, 1) := by decide +kernel
theorem dX5_holdsOf_57 : decode cX5_holdsOf 57 = .ok (.ireturn, 1) := by decide +kernel
theorem dX5_holdsOf_58 : decode cX5_holdsOf 58 = .ok (.aload_n 0, 1) := by decide +kernel
theorem dX5_holdsOf_59 : decode cX5_holdsOf 59 = .ok (.getfield 13, 3) := by decide +kernel
theorem dX5_holdsOf_62 : decode cX5_holdsOf 62 = .ok (.iload_n 1, 1) := by decide +kernel
theorem dX5_holdsOf_63 : decode cX5_holdsOf 63 = .ok (.iaload, 1) := by decide +kernel
theorem dX5_holdsOf_64 : decode cX5_holdsOf 64 = .ok (.iconst 2, 1) := by decide +kernel
theorem dX5_holdsOf_65 : decode cX5_holdsOf 65 = .ok (.iadd, 1) := by decide +kernel
theorem dX5_holdsOf_66 : decode cX5_holdsOf 66 = .ok (.ireturn, 1) := by decide +kernel
theorem dX5_holdsOf_67 : decode cX5_holdsOf 67 = .ok (.iconst 2, 1) := by decide +kernel
theorem dX5_holdsOf_68 : decode cX5_holdsOf 68 = .ok (.iload_n 2, 1) := by decide +kernel
theorem dX5_holdsOf_69 : decode cX5_holdsOf 69 = .ok (.iconst 1, 1) := by decide +kernel
theorem dX5_holdsOf_70 : decode cX5_holdsOf 70 = .ok (.iadd, 1) := by decide +kernel
theorem dX5_holdsOf_71 : decode cX5_holdsOf 71 = .ok (.imul, 1) := by decide +kernel
theorem dX5_holdsOf_72 : decode cX5_holdsOf 72 = .ok (.ireturn, 1) := by decide +kernel
theorem dX5_holdsOf_73 : decode cX5_holdsOf 73 = .ok (.iconst 2, 1) := by decide +kernel
theorem dX5_holdsOf_74 : decode cX5_holdsOf 74 = .ok (.iload_n 2, 1) := by decide +kernel
theorem dX5_holdsOf_75 : decode cX5_holdsOf 75 = .ok (.iconst 1, 1) := by decide +kernel
theorem dX5_holdsOf_76 : decode cX5_holdsOf 76 = .ok (.iadd, 1) := by decide +kernel
theorem dX5_holdsOf_77 : decode cX5_holdsOf 77 = .ok (.imul, 1) := by decide +kernel
theorem dX5_holdsOf_78 : decode cX5_holdsOf 78 = .ok (.iconst 1, 1) := by decide +kernel
theorem dX5_holdsOf_79 : decode cX5_holdsOf 79 = .ok (.isub, 1) := by decide +kernel
theorem dX5_holdsOf_80 : decode cX5_holdsOf 80 = .ok (.ireturn, 1) := by decide +kernel
theorem dX5_holdsOf_81 : decode cX5_holdsOf 81 = .ok (.iload_n 2, 1) := by decide +kernel
theorem dX5_holdsOf_82 : decode cX5_holdsOf 82 = .ok (.iconst 1, 1) := by decide +kernel
theorem dX5_holdsOf_83 : decode cX5_holdsOf 83 = .ok (.iadd, 1) := by decide +kernel
theorem dX5_holdsOf_84 : decode cX5_holdsOf 84 = .ok (.ireturn, 1) := by decide +kernel
abbrev A5_holdsOf (G : GG) (Q : Int32 → MM → Prop) := AW G E0 (MZ G (qI Q)) (WY yX5_holdsOf cX5_holdsOf 3 (some .int)) RX5 cX5_holdsOf 3 (some .int) ({ frames := 0, cells := 0, slots := 0, locals := 0 } : Room) 0 0
def D5_holdsOf (x1 : Int32) (M : MM) (Q : Int32 → MM → Prop) : Prop := ib 64 x1 ∧ (fun v1 : Int32 => ib 63 x1 ∧ (((M 63 (ix x1)) = 0 → Q v1 M) ∧ (¬ (M 63 (ix x1)) = 0 → (((M 63 (ix x1)) = 2 → ib 64 x1 ∧ Q ((M 64 (ix x1)) + (2 : Int32)) M) ∧ (¬ (M 63 (ix x1)) = 2 → (((M 63 (ix x1)) = 3 → Q ((2 : Int32) * (v1 + (1 : Int32))) M) ∧ (¬ (M 63 (ix x1)) = 3 → (((M 63 (ix x1)) = 5 → Q (((2 : Int32) * (v1 + (1 : Int32))) - (1 : Int32)) M) ∧ (¬ (M 63 (ix x1)) = 5 → Q (v1 + (1 : Int32)) M))))))))) (((M 64 (ix x1)) / (3 : Int32)) + (1 : Int32))
set_option maxHeartbeats 4000000 in
set_option maxRecDepth 100000 in
theorem s5_holdsOf {G : GG} {x1 : Int32} {M : MM} {Q : Int32 → MM → Prop} (h : D5_holdsOf x1 M Q) : CM G yX5_holdsOf (WY yX5_holdsOf cX5_holdsOf 3 (some .int)) 0 0 [.ref (gA G 62), .int x1] M (qI Q) := by
  refine CM.of (cc := cX5_holdsOf) (nL := 3) (ret := (some .int)) (own := RX5) (by decide +kernel) rfl rfl (Nat.le_of_ble_eq_true rfl) ?_
  show A5_holdsOf G Q 0 [(0, .ref (gA G 62)), (1, .int x1)] [] M
  unfold D5_holdsOf at h
  refine a_aload_n dX5_holdsOf_0 0 rfl ?_
  refine a_get3 dX5_holdsOf_1 2 (by decide) (tbc _ kF_RX5_13) (fun w h => tbc _ (uW3 w h)) rfl ob_62 rfl ?_
  refine a_iload_n dX5_holdsOf_4 1 rfl ?_
  refine a_iald dX5_holdsOf_5 h.1 ?_
  have h := h.2
  refine a_iconst (v := 3) dX5_holdsOf_6 (by decide) ?_
  refine a_idiv dX5_holdsOf_7 (by decide) ?_
  refine a_iconst (v := 1) dX5_holdsOf_8 (by decide) ?_
  refine a_iadd dX5_holdsOf_9 ?_
  refine a_istore_n (i := 2) (L' := [(2, .int _), (0, .ref _), (1, .int _)]) dX5_holdsOf_10 rfl (by decide) rfl ?_
  refine a_aload_n dX5_holdsOf_11 1 rfl ?_
  refine a_get3 dX5_holdsOf_12 1 (by decide) (tbc _ kF_RX5_7) (fun w h => tbc _ (uW3 w h)) rfl ob_62 rfl ?_
  refine a_iload_n dX5_holdsOf_15 2 rfl ?_
  refine a_iald dX5_holdsOf_16 h.1 ?_
  have h := h.2
  refine em_c h (fun c0 h => ?_) (fun c0 h => ?_)
  · refine a_tableIn (off := 39) (tgt := 56) dX5_holdsOf_17 (by rw [c0]; decide) (by rw [c0]; decide) (by rw [c0]; rfl) (by decide) ?_
    refine a_iload_n dX5_holdsOf_56 0 rfl ?_
    exact a_iret dX5_holdsOf_57 ⟨_, rfl, h⟩
  · refine em_c h (fun c2 h => ?_) (fun c2 h => ?_)
    · refine a_tableIn (off := 41) (tgt := 58) dX5_holdsOf_17 (by rw [c2]; decide) (by rw [c2]; decide) (by rw [c2]; rfl) (by decide) ?_
      refine a_aload_n dX5_holdsOf_58 1 rfl ?_
      refine a_get3 dX5_holdsOf_59 2 (by decide) (tbc _ kF_RX5_13) (fun w h => tbc _ (uW3 w h)) rfl ob_62 rfl ?_
      refine a_iload_n dX5_holdsOf_62 2 rfl ?_
      refine a_iald dX5_holdsOf_63 h.1 ?_
      have h := h.2
      refine a_iconst (v := 2) dX5_holdsOf_64 (by decide) ?_
      refine a_iadd dX5_holdsOf_65 ?_
      exact a_iret dX5_holdsOf_66 ⟨_, rfl, h⟩
    · refine em_c h (fun c3 h => ?_) (fun c3 h => ?_)
      · refine a_tableIn (off := 50) (tgt := 67) dX5_holdsOf_17 (by rw [c3]; decide) (by rw [c3]; decide) (by rw [c3]; rfl) (by decide) ?_
        refine a_iconst (v := 2) dX5_holdsOf_67 (by decide) ?_
        refine a_iload_n dX5_holdsOf_68 0 rfl ?_
        refine a_iconst (v := 1) dX5_holdsOf_69 (by decide) ?_
        refine a_iadd dX5_holdsOf_70 ?_
        refine a_imul dX5_holdsOf_71 ?_
        exact a_iret dX5_holdsOf_72 ⟨_, rfl, h⟩
      · refine em_c h (fun c5 h => ?_) (fun c5 h => ?_)
        · refine a_tableIn (off := 56) (tgt := 73) dX5_holdsOf_17 (by rw [c5]; decide) (by rw [c5]; decide) (by rw [c5]; rfl) (by decide) ?_
          refine a_iconst (v := 2) dX5_holdsOf_73 (by decide) ?_
          refine a_iload_n dX5_holdsOf_74 0 rfl ?_
          refine a_iconst (v := 1) dX5_holdsOf_75 (by decide) ?_
          refine a_iadd dX5_holdsOf_76 ?_
          refine a_imul dX5_holdsOf_77 ?_
          refine a_iconst (v := 1) dX5_holdsOf_78 (by decide) ?_
          refine a_isub dX5_holdsOf_79 ?_
          exact a_iret dX5_holdsOf_80 ⟨_, rfl, h⟩
        · refine a_tableD (tgt := 81) dX5_holdsOf_17 (by decide) (fun k h1 h2 e => by have hk : k = 0 ∨ k = 1 ∨ k = 2 ∨ k = 3 ∨ k = 4 ∨ k = 5 := (by omega); rcases hk with rfl | rfl | rfl | rfl | rfl | rfl <;> first | rfl | exact absurd e (ne_ti c0 (by decide)) | exact absurd e (ne_ti c2 (by decide)) | exact absurd e (ne_ti c3 (by decide)) | exact absurd e (ne_ti c5 (by decide))) ?_
          refine a_iload_n dX5_holdsOf_81 0 rfl ?_
          refine a_iconst (v := 1) dX5_holdsOf_82 (by decide) ?_
          refine a_iadd dX5_holdsOf_83 ?_
          exact a_iret dX5_holdsOf_84 ⟨_, rfl, h⟩

/-! X5_hourBy -/
theorem dX5_hourBy_0 : decode cX5_hourBy 0 = .ok (.aload_n 0, 1) := by decide +kernel
theorem dX5_hourBy_1 : decode cX5_hourBy 1 = .ok (.dup, 1) := by decide +kernel
theorem dX5_hourBy_2 : decode cX5_hourBy 2 = .ok (.getfield 114, 3) := by decide +kernel
theorem dX5_hourBy_5 : decode cX5_hourBy 5 = .ok (.iconst 1, 1) := by decide +kernel
theorem dX5_hourBy_6 : decode cX5_hourBy 6 = .ok (.iadd, 1) := by decide +kernel
theorem dX5_hourBy_7 : decode cX5_hourBy 7 = .ok (.putfield 114, 3) := by decide +kernel
theorem dX5_hourBy_10 : decode cX5_hourBy 10 = .ok (.aload_n 0, 1) := by decide +kernel
theorem dX5_hourBy_11 : decode cX5_hourBy 11 = .ok (.aload_n 0, 1) := by decide +kernel
theorem dX5_hourBy_12 : decode cX5_hourBy 12 = .ok (.getfield 114, 3) := by decide +kernel
theorem dX5_hourBy_15 : decode cX5_hourBy 15 = .ok (.invokestatic 117, 3) := by decide +kernel
theorem dX5_hourBy_18 : decode cX5_hourBy 18 = .ok (.iload_n 1, 1) := by decide +kernel
theorem dX5_hourBy_19 : decode cX5_hourBy 19 = .ok (.iadd, 1) := by decide +kernel
theorem dX5_hourBy_20 : decode cX5_hourBy 20 = .ok (.iconst 5, 1) := by decide +kernel
theorem dX5_hourBy_21 : decode cX5_hourBy 21 = .ok (.invokestatic 86, 3) := by decide +kernel
theorem dX5_hourBy_24 : decode cX5_hourBy 24 = .ok (.invokevirtual 121, 3) := by decide +kernel
theorem dX5_hourBy_27 : decode cX5_hourBy 27 = .ok (.iconst 0, 1) := by decide +kernel
theorem dX5_hourBy_28 : decode cX5_hourBy 28 = .ok (.istore_n 2, 1) := by decide +kernel
theorem dX5_hourBy_29 : decode cX5_hourBy 29 = .ok (.iload_n 2, 1) := by decide +kernel
theorem dX5_hourBy_30 : decode cX5_hourBy 30 = .ok (.aload_n 0, 1) := by decide +kernel
theorem dX5_hourBy_31 : decode cX5_hourBy 31 = .ok (.getfield 77, 3) := by decide +kernel
theorem dX5_hourBy_34 : decode cX5_hourBy 34 = .ok (.if_icmp .ge 135, 3) := by decide +kernel
theorem dX5_hourBy_37 : decode cX5_hourBy 37 = .ok (.aload_n 0, 1) := by decide +kernel
theorem dX5_hourBy_38 : decode cX5_hourBy 38 = .ok (.getfield 22, 3) := by decide +kernel
theorem dX5_hourBy_41 : decode cX5_hourBy 41 = .ok (.iload_n 2, 1) := by decide +kernel
theorem dX5_hourBy_42 : decode cX5_hourBy 42 = .ok (.iaload, 1) := by decide +kernel
theorem dX5_hourBy_43 : decode cX5_hourBy 43 = .ok (.ifCond .ne 120, 3) := by decide +kernel
theorem dX5_hourBy_46 : decode cX5_hourBy 46 = .ok (.aload_n 0, 1) := by decide +kernel
theorem dX5_hourBy_47 : decode cX5_hourBy 47 = .ok (.getfield 19, 3) := by decide +kernel
theorem dX5_hourBy_50 : decode cX5_hourBy 50 = .ok (.iload_n 2, 1) := by decide +kernel
theorem dX5_hourBy_51 : decode cX5_hourBy 51 = .ok (.aload_n 0, 1) := by decide +kernel
theorem dX5_hourBy_52 : decode cX5_hourBy 52 = .ok (.getfield 19, 3) := by decide +kernel
theorem dX5_hourBy_55 : decode cX5_hourBy 55 = .ok (.iload_n 2, 1) := by decide +kernel
theorem dX5_hourBy_56 : decode cX5_hourBy 56 = .ok (.iaload, 1) := by decide +kernel
theorem dX5_hourBy_57 : decode cX5_hourBy 57 = .ok (.aload_n 0, 1) := by decide +kernel
theorem dX5_hourBy_58 : decode cX5_hourBy 58 = .ok (.iload_n 2, 1) := by decide +kernel
theorem dX5_hourBy_59 : decode cX5_hourBy 59 = .ok (.invokevirtual 125, 3) := by decide +kernel
theorem dX5_hourBy_62 : decode cX5_hourBy 62 = .ok (.ifCond .eq 7, 3) := by decide +kernel
theorem dX5_hourBy_65 : decode cX5_hourBy 65 = .ok (.iconst 1, 1) := by decide +kernel
theorem dX5_hourBy_66 : decode cX5_hourBy 66 = .ok (.goto 4, 3) := by decide +kernel
theorem dX5_hourBy_69 : decode cX5_hourBy 69 = .ok (.iconst 0, 1) := by decide +kernel
theorem dX5_hourBy_70 : decode cX5_hourBy 70 = .ok (.iadd, 1) := by decide +kernel
theorem dX5_hourBy_71 : decode cX5_hourBy 71 = .ok (.bipush 99, 2) := by decide +kernel
theorem dX5_hourBy_73 : decode cX5_hourBy 73 = .ok (.invokestatic 86, 3) := by decide +kernel
theorem dX5_hourBy_76 : decode cX5_hourBy 76 = .ok (.iastore, 1) := by decide +kernel
theorem dX5_hourBy_77 : decode cX5_hourBy 77 = .ok (.aload_n 0, 1) := by decide +kernel
theorem dX5_hourBy_78 : decode cX5_hourBy 78 = .ok (.aload_n 0, 1) := by decide +kernel
theorem dX5_hourBy_79 : decode cX5_hourBy 79 = .ok (.getfield 16, 3) := by decide +kernel
theorem dX5_hourBy_82 : decode cX5_hourBy 82 = .ok (.iload_n 2, 1) := by decide +kernel
theorem dX5_hourBy_83 : decode cX5_hourBy 83 = .ok (.iaload, 1) := by decide +kernel
theorem dX5_hourBy_84 : decode cX5_hourBy 84 = .ok (.invokevirtual 111, 3) := by decide +kernel
theorem dX5_hourBy_87 : decode cX5_hourBy 87 = .ok (.ifCond .ne 18, 3) := by decide +kernel
theorem dX5_hourBy_90 : decode cX5_hourBy 90 = .ok (.aload_n 0, 1) := by decide +kernel
theorem dX5_hourBy_91 : decode cX5_hourBy 91 = .ok (.getfield 128, 3) := by decide +kernel
theorem dX5_hourBy_94 : decode cX5_hourBy 94 = .ok (.iload_n 2, 1) := by decide +kernel
theorem dX5_hourBy_95 : decode cX5_hourBy 95 = .ok (.invokestatic 93, 3) := by decide +kernel
theorem dX5_hourBy_98 : decode cX5_hourBy 98 = .ok (.ifCond .ne 7, 3) := by decide +kernel
theorem dX5_hourBy_101 : decode cX5_hourBy 101 = .ok (.iconst 1, 1) := by decide +kernel
theorem dX5_hourBy_102 : decode cX5_hourBy 102 = .ok (.goto 4, 3) := by decide +kernel
theorem dX5_hourBy_105 : decode cX5_hourBy 105 = .ok (.iconst 0, 1) := by decide +kernel
theorem dX5_hourBy_106 : decode cX5_hourBy 106 = .ok (.istore_n 3, 1) := by decide +kernel
theorem dX5_hourBy_107 : decode cX5_hourBy 107 = .ok (.aload_n 0, 1) := by decide +kernel
theorem dX5_hourBy_108 : decode cX5_hourBy 108 = .ok (.aload_n 0, 1) := by decide +kernel
theorem dX5_hourBy_109 : decode cX5_hourBy 109 = .ok (.getfield 131, 3) := by decide +kernel
theorem dX5_hourBy_112 : decode cX5_hourBy 112 = .ok (.iload_n 3, 1) := by decide +kernel
theorem dX5_hourBy_113 : decode cX5_hourBy 113 = .ok (.ifCond .eq 11, 3) := by decide +kernel
theorem dX5_hourBy_116 : decode cX5_hourBy 116 = .ok (.aload_n 0, 1) := by decide +kernel
theorem dX5_hourBy_117 : decode cX5_hourBy 117 = .ok (.iload_n 2, 1) := by decide +kernel
theorem dX5_hourBy_118 : decode cX5_hourBy 118 = .ok (.invokevirtual 134, 3) := by decide +kernel
theorem dX5_hourBy_121 : decode cX5_hourBy 121 = .ok (.goto 4, 3) := by decide +kernel
theorem dX5_hourBy_124 : decode cX5_hourBy 124 = .ok (.iconst 0, 1) := by decide +kernel
theorem dX5_hourBy_125 : decode cX5_hourBy 125 = .ok (.iadd, 1) := by decide +kernel
theorem dX5_hourBy_126 : decode cX5_hourBy 126 = .ok (.sipush 9999, 3) := by decide +kernel
theorem dX5_hourBy_129 : decode cX5_hourBy 129 = .ok (.invokestatic 86, 3) := by decide +kernel
theorem dX5_hourBy_132 : decode cX5_hourBy 132 = .ok (.putfield 131, 3) := by decide +kernel
theorem dX5_hourBy_135 : decode cX5_hourBy 135 = .ok (.aload_n 0, 1) := by decide +kernel
theorem dX5_hourBy_136 : decode cX5_hourBy 136 = .ok (.aload_n 0, 1) := by decide +kernel
theorem dX5_hourBy_137 : decode cX5_hourBy 137 = .ok (.getfield 137, 3) := by decide +kernel
theorem dX5_hourBy_140 : decode cX5_hourBy 140 = .ok (.iload_n 3, 1) := by decide +kernel
theorem dX5_hourBy_141 : decode cX5_hourBy 141 = .ok (.ifCond .eq 11, 3) := by decide +kernel
theorem dX5_hourBy_144 : decode cX5_hourBy 144 = .ok (.aload_n 0, 1) := by decide +kernel
theorem dX5_hourBy_145 : decode cX5_hourBy 145 = .ok (.iload_n 2, 1) := by decide +kernel
theorem dX5_hourBy_146 : decode cX5_hourBy 146 = .ok (.invokevirtual 140, 3) := by decide +kernel
theorem dX5_hourBy_149 : decode cX5_hourBy 149 = .ok (.goto 4, 3) := by decide +kernel
theorem dX5_hourBy_152 : decode cX5_hourBy 152 = .ok (.iconst 0, 1) := by decide +kernel
theorem dX5_hourBy_153 : decode cX5_hourBy 153 = .ok (.iadd, 1) := by decide +kernel
theorem dX5_hourBy_154 : decode cX5_hourBy 154 = .ok (.sipush 9999, 3) := by decide +kernel
theorem dX5_hourBy_157 : decode cX5_hourBy 157 = .ok (.invokestatic 86, 3) := by decide +kernel
theorem dX5_hourBy_160 : decode cX5_hourBy 160 = .ok (.putfield 137, 3) := by decide +kernel
theorem dX5_hourBy_163 : decode cX5_hourBy 163 = .ok (.iinc 2 1, 3) := by decide +kernel
theorem dX5_hourBy_166 : decode cX5_hourBy 166 = .ok (.goto (-137), 3) := by decide +kernel
theorem dX5_hourBy_169 : decode cX5_hourBy 169 = .ok (.iconst 0, 1) := by decide +kernel
theorem dX5_hourBy_170 : decode cX5_hourBy 170 = .ok (.istore_n 2, 1) := by decide +kernel
theorem dX5_hourBy_171 : decode cX5_hourBy 171 = .ok (.iload_n 2, 1) := by decide +kernel
theorem dX5_hourBy_172 : decode cX5_hourBy 172 = .ok (.aload_n 0, 1) := by decide +kernel
theorem dX5_hourBy_173 : decode cX5_hourBy 173 = .ok (.getfield 77, 3) := by decide +kernel
theorem dX5_hourBy_176 : decode cX5_hourBy 176 = .ok (.if_icmp .ge 44, 3) := by decide +kernel
theorem dX5_hourBy_179 : decode cX5_hourBy 179 = .ok (.aload_n 0, 1) := by decide +kernel
theorem dX5_hourBy_180 : decode cX5_hourBy 180 = .ok (.getfield 22, 3) := by decide +kernel
theorem dX5_hourBy_183 : decode cX5_hourBy 183 = .ok (.iload_n 2, 1) := by decide +kernel
theorem dX5_hourBy_184 : decode cX5_hourBy 184 = .ok (.aload_n 0, 1) := by decide +kernel
theorem dX5_hourBy_185 : decode cX5_hourBy 185 = .ok (.getfield 22, 3) := by decide +kernel
theorem dX5_hourBy_188 : decode cX5_hourBy 188 = .ok (.iload_n 2, 1) := by decide +kernel
theorem dX5_hourBy_189 : decode cX5_hourBy 189 = .ok (.iaload, 1) := by decide +kernel
theorem dX5_hourBy_190 : decode cX5_hourBy 190 = .ok (.iconst 1, 1) := by decide +kernel
theorem dX5_hourBy_191 : decode cX5_hourBy 191 = .ok (.if_icmp .eq 17, 3) := by decide +kernel
theorem dX5_hourBy_194 : decode cX5_hourBy 194 = .ok (.aload_n 0, 1) := by decide +kernel
theorem dX5_hourBy_195 : decode cX5_hourBy 195 = .ok (.getfield 19, 3) := by decide +kernel
theorem dX5_hourBy_198 : decode cX5_hourBy 198 = .ok (.iload_n 2, 1) := by decide +kernel
theorem dX5_hourBy_199 : decode cX5_hourBy 199 = .ok (.iaload, 1) := by decide +kernel
theorem dX5_hourBy_200 : decode cX5_hourBy 200 = .ok (.aload_n 0, 1) := by decide +kernel
theorem dX5_hourBy_201 : decode cX5_hourBy 201 = .ok (.iload_n 2, 1) := by decide +kernel
theorem dX5_hourBy_202 : decode cX5_hourBy 202 = .ok (.invokevirtual 143, 3) := by decide +kernel
theorem dX5_hourBy_205 : decode cX5_hourBy 205 = .ok (.if_icmp .le 7, 3) := by decide +kernel
theorem dX5_hourBy_208 : decode cX5_hourBy 208 = .ok (.iconst 1, 1) := by decide +kernel
theorem dX5_hourBy_209 : decode cX5_hourBy 209 = .ok (.goto 4, 3) := by decide +kernel
theorem dX5_hourBy_212 : decode cX5_hourBy 212 = .ok (.iconst 0, 1) := by decide +kernel
theorem dX5_hourBy_213 : decode cX5_hourBy 213 = .ok (.iastore, 1) := by decide +kernel
theorem dX5_hourBy_214 : decode cX5_hourBy 214 = .ok (.iinc 2 1, 3) := by decide +kernel
theorem dX5_hourBy_217 : decode cX5_hourBy 217 = .ok (.goto (-46), 3) := by decide +kernel
theorem dX5_hourBy_220 : decode cX5_hourBy 220 = .ok (.return_, 1) := by decide +kernel
abbrev A5_hourBy (G : GG) (Q : MM → Prop) := AW G E0 (MZ G (qV Q)) (WY yX5_hourBy cX5_hourBy 4 none) RX5 cX5_hourBy 4 none ({ frames := 3, cells := 0, slots := 0, locals := 66 } : Room) 0 0
def D5_hourBy_c163 (K29 : Int32 → MM → Prop) (Q : MM → Prop) (x2 : Int32) (M : MM) : Prop := (fun v10 : Int32 => K29 v10 M) (x2 + (1 : Int32))
def D5_hourBy_c153 (K29 : Int32 → MM → Prop) (Q : MM → Prop) (x2 : Int32) (s0 : Int32) (s1 : Int32) (M : MM) : Prop := D5_held (s1 + s0) (9999 : Int32) M (fun (r29 : Int32) (M30 : MM) => (fun M31 : MM => D5_hourBy_c163 K29 Q x2 M31) (up M30 62 7 r29))
def D5_hourBy_c125 (K29 : Int32 → MM → Prop) (Q : MM → Prop) (x2 : Int32) (x3 : Int32) (s0 : Int32) (s1 : Int32) (M : MM) : Prop := D5_held (s1 + s0) (9999 : Int32) M (fun (r24 : Int32) (M25 : MM) => (fun M26 : MM => ((x3 = 0 → D5_hourBy_c153 K29 Q x2 (0 : Int32) (M26 62 7) M26) ∧ (¬ x3 = 0 → D5_rateOf x2 M26 (fun (r27 : Int32) (M28 : MM) => D5_hourBy_c153 K29 Q x2 r27 (M26 62 7) M28)))) (up M25 62 6 r24))
def D5_hourBy_c106 (K29 : Int32 → MM → Prop) (Q : MM → Prop) (x2 : Int32) (s0 : Int32) (M : MM) : Prop := ((s0 = 0 → D5_hourBy_c125 K29 Q x2 s0 (0 : Int32) (M 62 6) M) ∧ (¬ s0 = 0 → D5_letsOf x2 M (fun (r20 : Int32) (M21 : MM) => D5_hourBy_c125 K29 Q x2 s0 r20 (M 62 6) M21)))
def D5_hourBy_c105 (K29 : Int32 → MM → Prop) (Q : MM → Prop) (x2 : Int32) (M : MM) : Prop := D5_hourBy_c106 K29 Q x2 (0 : Int32) M
def D5_hourBy_c70 (K29 : Int32 → MM → Prop) (Q : MM → Prop) (x2 : Int32) (s0 : Int32) (s1 : Int32) (s2 : Int32) (s3 : Nat) (M : MM) : Prop := D5_held (s1 + s0) (99 : Int32) M (fun (r11 : Int32) (M12 : MM) => ib s3 s2 ∧ (fun M13 : MM => ib 65 x2 ∧ D5_isWet (M13 65 (ix x2)) M13 (fun (r14 : Int32) (M15 : MM) => ((r14 ≠ 0 → D5_hourBy_c105 K29 Q x2 M15) ∧ (r14 = 0 → D5_hasBit (M15 62 15) x2 M15 (fun (r16 : Int32) (M17 : MM) => ((r16 ≠ 0 → D5_hourBy_c105 K29 Q x2 M17) ∧ (r16 = 0 → D5_hourBy_c106 K29 Q x2 (1 : Int32) M17))))))) (up M12 s3 (ix s2) r11))
def D5_hourBy_c213 (K171 : Int32 → MM → Prop) (Q : MM → Prop) (x2 : Int32) (s0 : Int32) (s1 : Int32) (s2 : Nat) (M : MM) : Prop := ib s2 s1 ∧ (fun M22 : MM => (fun v23 : Int32 => K171 v23 M22) (x2 + (1 : Int32))) (up M s2 (ix s1) s0)
def D5_hourBy_c208 (K171 : Int32 → MM → Prop) (Q : MM → Prop) (x2 : Int32) (s0 : Int32) (s1 : Nat) (M : MM) : Prop := D5_hourBy_c213 K171 Q x2 (1 : Int32) s0 s1 M
def D5_hourBy_c171 (Q : MM → Prop) : Nat → Int32 → MM → Prop
  | 0, _, _ => False
  | n + 1, x2, M => (((M 62 0) ≤ x2 → Q M) ∧ (¬ (M 62 0) ≤ x2 → ib 67 x2 ∧ (((M 67 (ix x2)) = (1 : Int32) → D5_hourBy_c208 (D5_hourBy_c171 Q n) Q x2 x2 67 M) ∧ (¬ (M 67 (ix x2)) = (1 : Int32) → ib 66 x2 ∧ D5_holdsOf x2 M (fun (r18 : Int32) (M19 : MM) => (((M 66 (ix x2)) ≤ r18 → D5_hourBy_c213 (D5_hourBy_c171 Q n) Q x2 (0 : Int32) x2 67 M19) ∧ (¬ (M 66 (ix x2)) ≤ r18 → D5_hourBy_c208 (D5_hourBy_c171 Q n) Q x2 x2 67 M19)))))))
def D5_hourBy_c169 (Q : MM → Prop) (M : MM) : Prop := D5_hourBy_c171 Q FU (0 : Int32) M
def D5_hourBy_c29 (Q : MM → Prop) : Nat → Int32 → MM → Prop
  | 0, _, _ => False
  | n + 1, x2, M => (((M 62 0) ≤ x2 → D5_hourBy_c169 Q M) ∧ (¬ (M 62 0) ≤ x2 → ib 67 x2 ∧ (((M 67 (ix x2)) ≠ 0 → D5_hourBy_c163 (D5_hourBy_c29 Q n) Q x2 M) ∧ ((M 67 (ix x2)) = 0 → ib 66 x2 ∧ D5_isWorn x2 M (fun (r8 : Int32) (M9 : MM) => ((r8 = 0 → D5_hourBy_c70 (D5_hourBy_c29 Q n) Q x2 (0 : Int32) (M 66 (ix x2)) x2 66 M9) ∧ (¬ r8 = 0 → D5_hourBy_c70 (D5_hourBy_c29 Q n) Q x2 (1 : Int32) (M 66 (ix x2)) x2 66 M9)))))))
def D5_hourBy (x1 : Int32) (M : MM) (Q : MM → Prop) : Prop := (fun M1 : MM => D5_levelAt (M1 62 8) M1 (fun (r2 : Int32) (M3 : MM) => D5_held (r2 + x1) (5 : Int32) M3 (fun (r4 : Int32) (M5 : MM) => D5_layWet r4 M5 (fun (M7 : MM) => D5_hourBy_c29 Q FU (0 : Int32) M7)))) (up M 62 8 ((M 62 8) + (1 : Int32)))
set_option maxHeartbeats 4000000 in
set_option maxRecDepth 100000 in
theorem s5_hourBy_c163 {G : GG} {K29 : Int32 → MM → Prop} {Q : MM → Prop} (hK29 : ∀ (x2 : Int32) (M : MM), K29 x2 M → A5_hourBy G Q 29 [(0, .ref (gA G 62)), (2, .int x2)] [] M) : ∀ (x2 : Int32) (M : MM), D5_hourBy_c163 K29 Q x2 M → A5_hourBy G Q 163 [(0, .ref (gA G 62)), (2, .int x2)] [] M := by
  intro x2 M h
  unfold D5_hourBy_c163 at h
  refine a_iinc (L' := [(2, .int _), (0, .ref _)]) dX5_hourBy_163 1 rfl (show _ + Int32.ofInt (1 : Int) = _ + (1 : Int32) from rfl) (by decide) rfl ?_
  refine a_goto (tgt := 29) dX5_hourBy_166 (by decide) ?_
  refine a_sub [1, 0] rfl ?_
  exact hK29 _ _ h
set_option maxHeartbeats 4000000 in
set_option maxRecDepth 100000 in
theorem s5_hourBy_c153 {G : GG} {K29 : Int32 → MM → Prop} {Q : MM → Prop} (hK29 : ∀ (x2 : Int32) (M : MM), K29 x2 M → A5_hourBy G Q 29 [(0, .ref (gA G 62)), (2, .int x2)] [] M) : ∀ (x2 : Int32) (s0 : Int32) (s1 : Int32) (M : MM), D5_hourBy_c153 K29 Q x2 s0 s1 M → A5_hourBy G Q 153 [(0, .ref (gA G 62)), (2, .int x2)] [.int s0, .int s1, .ref (gA G 62)] M := by
  intro x2 s0 s1 M h
  unfold D5_hourBy_c153 at h
  refine a_iadd dX5_hourBy_153 ?_
  refine a_sipush (v := 9999) dX5_hourBy_154 (by decide) ?_
  refine a_callSi (n := 2) [.int _, .int _] dX5_hourBy_157 (s5_held h) (gS tbc kM_RX5_86_X5_held kT_X5_held kN_RX5 kC_X5_held) rfl (by decide +kernel) ⟨Nat.le_of_ble_eq_true rfl, Nat.le_of_ble_eq_true rfl⟩ rfl rfl (Nat.le_of_ble_eq_true rfl) ⟨Nat.le_refl 0, Nat.le_refl 0⟩ (fun r M h => ?_)
  refine a_put3 dX5_hourBy_160 7 (by decide) (tbc _ kF_RX5_137) (fun w h => tbc _ (uW3 w h)) rfl rfl rfl rfl ob_62 fs3_7 ?_
  refine a_sub [0, 1] rfl ?_
  exact s5_hourBy_c163 hK29 _ _ h
set_option maxHeartbeats 4000000 in
set_option maxRecDepth 100000 in
theorem s5_hourBy_c125 {G : GG} {K29 : Int32 → MM → Prop} {Q : MM → Prop} (hK29 : ∀ (x2 : Int32) (M : MM), K29 x2 M → A5_hourBy G Q 29 [(0, .ref (gA G 62)), (2, .int x2)] [] M) : ∀ (x2 : Int32) (x3 : Int32) (s0 : Int32) (s1 : Int32) (M : MM), D5_hourBy_c125 K29 Q x2 x3 s0 s1 M → A5_hourBy G Q 125 [(0, .ref (gA G 62)), (2, .int x2), (3, .int x3)] [.int s0, .int s1, .ref (gA G 62)] M := by
  intro x2 x3 s0 s1 M h
  unfold D5_hourBy_c125 at h
  refine a_iadd dX5_hourBy_125 ?_
  refine a_sipush (v := 9999) dX5_hourBy_126 (by decide) ?_
  refine a_callSi (n := 2) [.int _, .int _] dX5_hourBy_129 (s5_held h) (gS tbc kM_RX5_86_X5_held kT_X5_held kN_RX5 kC_X5_held) rfl (by decide +kernel) ⟨Nat.le_of_ble_eq_true rfl, Nat.le_of_ble_eq_true rfl⟩ rfl rfl (Nat.le_of_ble_eq_true rfl) ⟨Nat.le_refl 0, Nat.le_refl 0⟩ (fun r M h => ?_)
  refine a_put3 dX5_hourBy_132 6 (by decide) (tbc _ kF_RX5_131) (fun w h => tbc _ (uW3 w h)) rfl rfl rfl rfl ob_62 fs3_6 ?_
  refine a_aload_n dX5_hourBy_135 0 rfl ?_
  refine a_aload_n dX5_hourBy_136 0 rfl ?_
  refine a_get3 dX5_hourBy_137 7 (by decide) (tbc _ kF_RX5_137) (fun w h => tbc _ (uW3 w h)) rfl ob_62 rfl ?_
  refine a_iload_n dX5_hourBy_140 2 rfl ?_
  refine a_if_eq (tgt := 152) dX5_hourBy_141 (by decide) (fun c => ?_) (fun c => ?_)
  · have h := h.1 c
    refine a_iconst (v := 0) dX5_hourBy_152 (by decide) ?_
    refine a_sub [0, 1] rfl ?_
    exact s5_hourBy_c153 hK29 _ _ _ _ h
  · have h := h.2 c
    refine a_aload_n dX5_hourBy_144 0 rfl ?_
    refine a_iload_n dX5_hourBy_145 1 rfl ?_
    refine a_callVi (n := 1) [.int _] (C := RX5) (ci := 3) (qc := (RX5, TX5, 40)) (fsF := fl3 G _) ob_62.1 (fun _ => en3 ob_62.2) rfl rfl dX5_hourBy_146 (s5_rateOf h) (gV tbc kM_RX5_140_X5_rateOf kI_X5_rateOf kS_X5_rateOf kN_RX5 kC_X5_rateOf) rfl (by decide +kernel) ⟨Nat.le_of_ble_eq_true rfl, Nat.le_of_ble_eq_true rfl⟩ rfl rfl (Nat.le_of_ble_eq_true rfl) ⟨Nat.le_refl 0, Nat.le_refl 0⟩ (fun r M h => ?_)
    refine a_goto (tgt := 153) dX5_hourBy_149 (by decide) ?_
    refine a_sub [0, 1] rfl ?_
    exact s5_hourBy_c153 hK29 _ _ _ _ h
set_option maxHeartbeats 4000000 in
set_option maxRecDepth 100000 in
theorem s5_hourBy_c106 {G : GG} {K29 : Int32 → MM → Prop} {Q : MM → Prop} (hK29 : ∀ (x2 : Int32) (M : MM), K29 x2 M → A5_hourBy G Q 29 [(0, .ref (gA G 62)), (2, .int x2)] [] M) : ∀ (x2 : Int32) (s0 : Int32) (M : MM), D5_hourBy_c106 K29 Q x2 s0 M → A5_hourBy G Q 106 [(0, .ref (gA G 62)), (2, .int x2)] [.int s0] M := by
  intro x2 s0 M h
  unfold D5_hourBy_c106 at h
  refine a_istore_n (i := 3) (L' := [(3, .int _), (0, .ref _), (2, .int _)]) dX5_hourBy_106 rfl (by decide) rfl ?_
  refine a_aload_n dX5_hourBy_107 1 rfl ?_
  refine a_aload_n dX5_hourBy_108 1 rfl ?_
  refine a_get3 dX5_hourBy_109 6 (by decide) (tbc _ kF_RX5_131) (fun w h => tbc _ (uW3 w h)) rfl ob_62 rfl ?_
  refine a_iload_n dX5_hourBy_112 0 rfl ?_
  refine a_if_eq (tgt := 124) dX5_hourBy_113 (by decide) (fun c => ?_) (fun c => ?_)
  · have h := h.1 c
    refine a_iconst (v := 0) dX5_hourBy_124 (by decide) ?_
    refine a_sub [1, 2, 0] rfl ?_
    exact s5_hourBy_c125 hK29 _ _ _ _ _ h
  · have h := h.2 c
    refine a_aload_n dX5_hourBy_116 1 rfl ?_
    refine a_iload_n dX5_hourBy_117 2 rfl ?_
    refine a_callVi (n := 1) [.int _] (C := RX5) (ci := 3) (qc := (RX5, TX5, 40)) (fsF := fl3 G _) ob_62.1 (fun _ => en3 ob_62.2) rfl rfl dX5_hourBy_118 (s5_letsOf h) (gV tbc kM_RX5_134_X5_letsOf kI_X5_letsOf kS_X5_letsOf kN_RX5 kC_X5_letsOf) rfl (by decide +kernel) ⟨Nat.le_of_ble_eq_true rfl, Nat.le_of_ble_eq_true rfl⟩ rfl rfl (Nat.le_of_ble_eq_true rfl) ⟨Nat.le_refl 0, Nat.le_refl 0⟩ (fun r M h => ?_)
    refine a_goto (tgt := 125) dX5_hourBy_121 (by decide) ?_
    refine a_sub [1, 2, 0] rfl ?_
    exact s5_hourBy_c125 hK29 _ _ _ _ _ h
set_option maxHeartbeats 4000000 in
set_option maxRecDepth 100000 in
theorem s5_hourBy_c105 {G : GG} {K29 : Int32 → MM → Prop} {Q : MM → Prop} (hK29 : ∀ (x2 : Int32) (M : MM), K29 x2 M → A5_hourBy G Q 29 [(0, .ref (gA G 62)), (2, .int x2)] [] M) : ∀ (x2 : Int32) (M : MM), D5_hourBy_c105 K29 Q x2 M → A5_hourBy G Q 105 [(0, .ref (gA G 62)), (2, .int x2)] [] M := by
  intro x2 M h
  unfold D5_hourBy_c105 at h
  refine a_iconst (v := 0) dX5_hourBy_105 (by decide) ?_
  refine a_sub [0, 1] rfl ?_
  exact s5_hourBy_c106 hK29 _ _ _ h
set_option maxHeartbeats 4000000 in
set_option maxRecDepth 100000 in
theorem s5_hourBy_c70 {G : GG} {K29 : Int32 → MM → Prop} {Q : MM → Prop} (hK29 : ∀ (x2 : Int32) (M : MM), K29 x2 M → A5_hourBy G Q 29 [(0, .ref (gA G 62)), (2, .int x2)] [] M) : ∀ (x2 : Int32) (s0 : Int32) (s1 : Int32) (s2 : Int32) (s3 : Nat) (M : MM), D5_hourBy_c70 K29 Q x2 s0 s1 s2 s3 M → A5_hourBy G Q 70 [(0, .ref (gA G 62)), (2, .int x2)] [.int s0, .int s1, .int s2, .ref (gA G s3)] M := by
  intro x2 s0 s1 s2 s3 M h
  unfold D5_hourBy_c70 at h
  refine a_iadd dX5_hourBy_70 ?_
  refine a_bipush (v := 99) dX5_hourBy_71 (by decide) ?_
  refine a_callSi (n := 2) [.int _, .int _] dX5_hourBy_73 (s5_held h) (gS tbc kM_RX5_86_X5_held kT_X5_held kN_RX5 kC_X5_held) rfl (by decide +kernel) ⟨Nat.le_of_ble_eq_true rfl, Nat.le_of_ble_eq_true rfl⟩ rfl rfl (Nat.le_of_ble_eq_true rfl) ⟨Nat.le_refl 0, Nat.le_refl 0⟩ (fun r M h => ?_)
  refine a_iast dX5_hourBy_76 h.1 ?_
  have h := h.2
  refine a_aload_n dX5_hourBy_77 0 rfl ?_
  refine a_aload_n dX5_hourBy_78 0 rfl ?_
  refine a_get3 dX5_hourBy_79 3 (by decide) (tbc _ kF_RX5_16) (fun w h => tbc _ (uW3 w h)) rfl ob_62 rfl ?_
  refine a_iload_n dX5_hourBy_82 1 rfl ?_
  refine a_iald dX5_hourBy_83 h.1 ?_
  have h := h.2
  refine a_callVi (n := 1) [.int _] (C := RX5) (ci := 3) (qc := (RX5, TX5, 40)) (fsF := fl3 G _) ob_62.1 (fun _ => en3 ob_62.2) rfl rfl dX5_hourBy_84 (s5_isWet h) (gV tbc kM_RX5_111_X5_isWet kI_X5_isWet kS_X5_isWet kN_RX5 kC_X5_isWet) rfl (by decide +kernel) ⟨Nat.le_of_ble_eq_true rfl, Nat.le_of_ble_eq_true rfl⟩ rfl rfl (Nat.le_of_ble_eq_true rfl) ⟨Nat.le_refl 0, Nat.le_refl 0⟩ (fun r M h => ?_)
  refine a_if_ne (tgt := 105) dX5_hourBy_87 (by decide) (fun c => ?_) (fun c => ?_)
  · have h := h.1 c
    refine a_sub [0, 1] rfl ?_
    exact s5_hourBy_c105 hK29 _ _ h
  · have h := h.2 c
    refine a_aload_n dX5_hourBy_90 0 rfl ?_
    refine a_get3 dX5_hourBy_91 15 (by decide) (tbc _ kF_RX5_128) (fun w h => tbc _ (uW3 w h)) rfl ob_62 rfl ?_
    refine a_iload_n dX5_hourBy_94 1 rfl ?_
    refine a_callSi (n := 2) [.int _, .int _] dX5_hourBy_95 (s5_hasBit h) (gS tbc kM_RX5_93_X5_hasBit kT_X5_hasBit kN_RX5 kC_X5_hasBit) rfl (by decide +kernel) ⟨Nat.le_of_ble_eq_true rfl, Nat.le_of_ble_eq_true rfl⟩ rfl rfl (Nat.le_of_ble_eq_true rfl) ⟨Nat.le_refl 0, Nat.le_refl 0⟩ (fun r M h => ?_)
    refine a_if_ne (tgt := 105) dX5_hourBy_98 (by decide) (fun c => ?_) (fun c => ?_)
    · have h := h.1 c
      refine a_sub [0, 1] rfl ?_
      exact s5_hourBy_c105 hK29 _ _ h
    · have h := h.2 c
      refine a_iconst (v := 1) dX5_hourBy_101 (by decide) ?_
      refine a_goto (tgt := 106) dX5_hourBy_102 (by decide) ?_
      refine a_sub [0, 1] rfl ?_
      exact s5_hourBy_c106 hK29 _ _ _ h
set_option maxHeartbeats 4000000 in
set_option maxRecDepth 100000 in
theorem s5_hourBy_c213 {G : GG} {K171 : Int32 → MM → Prop} {Q : MM → Prop} (hK171 : ∀ (x2 : Int32) (M : MM), K171 x2 M → A5_hourBy G Q 171 [(0, .ref (gA G 62)), (2, .int x2)] [] M) : ∀ (x2 : Int32) (s0 : Int32) (s1 : Int32) (s2 : Nat) (M : MM), D5_hourBy_c213 K171 Q x2 s0 s1 s2 M → A5_hourBy G Q 213 [(0, .ref (gA G 62)), (2, .int x2)] [.int s0, .int s1, .ref (gA G s2)] M := by
  intro x2 s0 s1 s2 M h
  unfold D5_hourBy_c213 at h
  refine a_iast dX5_hourBy_213 h.1 ?_
  have h := h.2
  refine a_iinc (L' := [(2, .int _), (0, .ref _)]) dX5_hourBy_214 1 rfl (show _ + Int32.ofInt (1 : Int) = _ + (1 : Int32) from rfl) (by decide) rfl ?_
  refine a_goto (tgt := 171) dX5_hourBy_217 (by decide) ?_
  refine a_sub [1, 0] rfl ?_
  exact hK171 _ _ h
set_option maxHeartbeats 4000000 in
set_option maxRecDepth 100000 in
theorem s5_hourBy_c208 {G : GG} {K171 : Int32 → MM → Prop} {Q : MM → Prop} (hK171 : ∀ (x2 : Int32) (M : MM), K171 x2 M → A5_hourBy G Q 171 [(0, .ref (gA G 62)), (2, .int x2)] [] M) : ∀ (x2 : Int32) (s0 : Int32) (s1 : Nat) (M : MM), D5_hourBy_c208 K171 Q x2 s0 s1 M → A5_hourBy G Q 208 [(0, .ref (gA G 62)), (2, .int x2)] [.int s0, .ref (gA G s1)] M := by
  intro x2 s0 s1 M h
  unfold D5_hourBy_c208 at h
  refine a_iconst (v := 1) dX5_hourBy_208 (by decide) ?_
  refine a_goto (tgt := 213) dX5_hourBy_209 (by decide) ?_
  refine a_sub [0, 1] rfl ?_
  exact s5_hourBy_c213 hK171 _ _ _ _ _ h
set_option maxHeartbeats 4000000 in
set_option maxRecDepth 100000 in
theorem s5_hourBy_c171 {G : GG} {Q : MM → Prop} : ∀ (n : Nat) (x2 : Int32) (M : MM), D5_hourBy_c171 Q n x2 M → A5_hourBy G Q 171 [(0, .ref (gA G 62)), (2, .int x2)] [] M := by
  intro n
  induction n with
  | zero => intro x2 M h; exact h.elim
  | succ n ih =>
    intro x2 M h
    unfold D5_hourBy_c171 at h
    refine a_iload_n dX5_hourBy_171 1 rfl ?_
    refine a_aload_n dX5_hourBy_172 0 rfl ?_
    refine a_get3 dX5_hourBy_173 0 (by decide) (tbc _ kF_RX5_77) (fun w h => tbc _ (uW3 w h)) rfl ob_62 rfl ?_
    refine a_icmp_ge (tgt := 220) dX5_hourBy_176 (by decide) (fun c => ?_) (fun c => ?_)
    · have h := h.1 c
      exact a_vret dX5_hourBy_220 ⟨rfl, h⟩
    · have h := h.2 c
      refine a_aload_n dX5_hourBy_179 0 rfl ?_
      refine a_get3 dX5_hourBy_180 5 (by decide) (tbc _ kF_RX5_22) (fun w h => tbc _ (uW3 w h)) rfl ob_62 rfl ?_
      refine a_iload_n dX5_hourBy_183 1 rfl ?_
      refine a_aload_n dX5_hourBy_184 0 rfl ?_
      refine a_get3 dX5_hourBy_185 5 (by decide) (tbc _ kF_RX5_22) (fun w h => tbc _ (uW3 w h)) rfl ob_62 rfl ?_
      refine a_iload_n dX5_hourBy_188 1 rfl ?_
      refine a_iald dX5_hourBy_189 h.1 ?_
      have h := h.2
      refine a_iconst (v := 1) dX5_hourBy_190 (by decide) ?_
      refine a_icmp_eq (tgt := 208) dX5_hourBy_191 (by decide) (fun c => ?_) (fun c => ?_)
      · have h := h.1 c
        refine a_sub [0, 1] rfl ?_
        exact s5_hourBy_c208 ih _ _ _ _ h
      · have h := h.2 c
        refine a_aload_n dX5_hourBy_194 0 rfl ?_
        refine a_get3 dX5_hourBy_195 4 (by decide) (tbc _ kF_RX5_19) (fun w h => tbc _ (uW3 w h)) rfl ob_62 rfl ?_
        refine a_iload_n dX5_hourBy_198 1 rfl ?_
        refine a_iald dX5_hourBy_199 h.1 ?_
        have h := h.2
        refine a_aload_n dX5_hourBy_200 0 rfl ?_
        refine a_iload_n dX5_hourBy_201 1 rfl ?_
        refine a_callVi (n := 1) [.int _] (C := RX5) (ci := 3) (qc := (RX5, TX5, 40)) (fsF := fl3 G _) ob_62.1 (fun _ => en3 ob_62.2) rfl rfl dX5_hourBy_202 (s5_holdsOf h) (gV tbc kM_RX5_143_X5_holdsOf kI_X5_holdsOf kS_X5_holdsOf kN_RX5 kC_X5_holdsOf) rfl (by decide +kernel) ⟨Nat.le_of_ble_eq_true rfl, Nat.le_of_ble_eq_true rfl⟩ rfl rfl (Nat.le_of_ble_eq_true rfl) ⟨Nat.le_refl 0, Nat.le_refl 0⟩ (fun r M h => ?_)
        refine a_icmp_le (tgt := 212) dX5_hourBy_205 (by decide) (fun c => ?_) (fun c => ?_)
        · have h := h.1 c
          refine a_iconst (v := 0) dX5_hourBy_212 (by decide) ?_
          refine a_sub [0, 1] rfl ?_
          exact s5_hourBy_c213 ih _ _ _ _ _ h
        · have h := h.2 c
          refine a_sub [0, 1] rfl ?_
          exact s5_hourBy_c208 ih _ _ _ _ h
set_option maxHeartbeats 4000000 in
set_option maxRecDepth 100000 in
theorem s5_hourBy_c169 {G : GG} {Q : MM → Prop} : ∀  (M : MM), D5_hourBy_c169 Q M → A5_hourBy G Q 169 [(0, .ref (gA G 62))] [] M := by
  intro  M h
  unfold D5_hourBy_c169 at h
  refine a_iconst (v := 0) dX5_hourBy_169 (by decide) ?_
  refine a_istore_n (i := 2) (L' := [(2, .int _), (0, .ref _)]) dX5_hourBy_170 rfl (by decide) rfl ?_
  refine a_sub [1, 0] rfl ?_
  exact s5_hourBy_c171 _ _ _ h
set_option maxHeartbeats 4000000 in
set_option maxRecDepth 100000 in
theorem s5_hourBy_c29 {G : GG} {Q : MM → Prop} : ∀ (n : Nat) (x2 : Int32) (M : MM), D5_hourBy_c29 Q n x2 M → A5_hourBy G Q 29 [(0, .ref (gA G 62)), (2, .int x2)] [] M := by
  intro n
  induction n with
  | zero => intro x2 M h; exact h.elim
  | succ n ih =>
    intro x2 M h
    unfold D5_hourBy_c29 at h
    refine a_iload_n dX5_hourBy_29 1 rfl ?_
    refine a_aload_n dX5_hourBy_30 0 rfl ?_
    refine a_get3 dX5_hourBy_31 0 (by decide) (tbc _ kF_RX5_77) (fun w h => tbc _ (uW3 w h)) rfl ob_62 rfl ?_
    refine a_icmp_ge (tgt := 169) dX5_hourBy_34 (by decide) (fun c => ?_) (fun c => ?_)
    · have h := h.1 c
      refine a_sub [0] rfl ?_
      exact s5_hourBy_c169 _ h
    · have h := h.2 c
      refine a_aload_n dX5_hourBy_37 0 rfl ?_
      refine a_get3 dX5_hourBy_38 5 (by decide) (tbc _ kF_RX5_22) (fun w h => tbc _ (uW3 w h)) rfl ob_62 rfl ?_
      refine a_iload_n dX5_hourBy_41 1 rfl ?_
      refine a_iald dX5_hourBy_42 h.1 ?_
      have h := h.2
      refine a_if_ne (tgt := 163) dX5_hourBy_43 (by decide) (fun c => ?_) (fun c => ?_)
      · have h := h.1 c
        refine a_sub [0, 1] rfl ?_
        exact s5_hourBy_c163 ih _ _ h
      · have h := h.2 c
        refine a_aload_n dX5_hourBy_46 0 rfl ?_
        refine a_get3 dX5_hourBy_47 4 (by decide) (tbc _ kF_RX5_19) (fun w h => tbc _ (uW3 w h)) rfl ob_62 rfl ?_
        refine a_iload_n dX5_hourBy_50 1 rfl ?_
        refine a_aload_n dX5_hourBy_51 0 rfl ?_
        refine a_get3 dX5_hourBy_52 4 (by decide) (tbc _ kF_RX5_19) (fun w h => tbc _ (uW3 w h)) rfl ob_62 rfl ?_
        refine a_iload_n dX5_hourBy_55 1 rfl ?_
        refine a_iald dX5_hourBy_56 h.1 ?_
        have h := h.2
        refine a_aload_n dX5_hourBy_57 0 rfl ?_
        refine a_iload_n dX5_hourBy_58 1 rfl ?_
        refine a_callVi (n := 1) [.int _] (C := RX5) (ci := 3) (qc := (RX5, TX5, 40)) (fsF := fl3 G _) ob_62.1 (fun _ => en3 ob_62.2) rfl rfl dX5_hourBy_59 (s5_isWorn h) (gV tbc kM_RX5_125_X5_isWorn kI_X5_isWorn kS_X5_isWorn kN_RX5 kC_X5_isWorn) rfl (by decide +kernel) ⟨Nat.le_of_ble_eq_true rfl, Nat.le_of_ble_eq_true rfl⟩ rfl rfl (Nat.le_of_ble_eq_true rfl) ⟨Nat.le_refl 0, Nat.le_refl 0⟩ (fun r M h => ?_)
        refine a_if_eq (tgt := 69) dX5_hourBy_62 (by decide) (fun c => ?_) (fun c => ?_)
        · have h := h.1 c
          refine a_iconst (v := 0) dX5_hourBy_69 (by decide) ?_
          refine a_sub [0, 1] rfl ?_
          exact s5_hourBy_c70 ih _ _ _ _ _ _ h
        · have h := h.2 c
          refine a_iconst (v := 1) dX5_hourBy_65 (by decide) ?_
          refine a_goto (tgt := 70) dX5_hourBy_66 (by decide) ?_
          refine a_sub [0, 1] rfl ?_
          exact s5_hourBy_c70 ih _ _ _ _ _ _ h
set_option maxHeartbeats 4000000 in
set_option maxRecDepth 100000 in
theorem s5_hourBy {G : GG} {x1 : Int32} {M : MM} {Q : MM → Prop} (h : D5_hourBy x1 M Q) : CM G yX5_hourBy (WY yX5_hourBy cX5_hourBy 4 none) 3 66 [.ref (gA G 62), .int x1] M (qV Q) := by
  refine CM.of (cc := cX5_hourBy) (nL := 4) (ret := none) (own := RX5) (by decide +kernel) rfl rfl (Nat.le_of_ble_eq_true rfl) ?_
  show A5_hourBy G Q 0 [(0, .ref (gA G 62)), (1, .int x1)] [] M
  unfold D5_hourBy at h
  refine a_aload_n dX5_hourBy_0 0 rfl ?_
  refine a_dup dX5_hourBy_1 rfl ?_
  refine a_get3 dX5_hourBy_2 8 (by decide) (tbc _ kF_RX5_114) (fun w h => tbc _ (uW3 w h)) rfl ob_62 rfl ?_
  refine a_iconst (v := 1) dX5_hourBy_5 (by decide) ?_
  refine a_iadd dX5_hourBy_6 ?_
  refine a_put3 dX5_hourBy_7 8 (by decide) (tbc _ kF_RX5_114) (fun w h => tbc _ (uW3 w h)) rfl rfl rfl rfl ob_62 fs3_8 ?_
  refine a_aload_n dX5_hourBy_10 0 rfl ?_
  refine a_aload_n dX5_hourBy_11 0 rfl ?_
  refine a_get3 dX5_hourBy_12 8 (by decide) (tbc _ kF_RX5_114) (fun w h => tbc _ (uW3 w h)) rfl ob_62 rfl ?_
  refine a_callSi (n := 1) [.int _] dX5_hourBy_15 (s5_levelAt h) (gS tbc kM_RX5_117_X5_levelAt kT_X5_levelAt kN_RX5 kC_X5_levelAt) rfl (by decide +kernel) ⟨Nat.le_of_ble_eq_true rfl, Nat.le_of_ble_eq_true rfl⟩ rfl rfl (Nat.le_of_ble_eq_true rfl) ⟨Nat.le_refl 0, Nat.le_refl 0⟩ (fun r M h => ?_)
  refine a_iload_n dX5_hourBy_18 1 rfl ?_
  refine a_iadd dX5_hourBy_19 ?_
  refine a_iconst (v := 5) dX5_hourBy_20 (by decide) ?_
  refine a_callSi (n := 2) [.int _, .int _] dX5_hourBy_21 (s5_held h) (gS tbc kM_RX5_86_X5_held kT_X5_held kN_RX5 kC_X5_held) rfl (by decide +kernel) ⟨Nat.le_of_ble_eq_true rfl, Nat.le_of_ble_eq_true rfl⟩ rfl rfl (Nat.le_of_ble_eq_true rfl) ⟨Nat.le_refl 0, Nat.le_refl 0⟩ (fun r M h => ?_)
  refine a_callVv (n := 1) [.int _] (C := RX5) (ci := 3) (qc := (RX5, TX5, 40)) (fsF := fl3 G _) ob_62.1 (fun _ => en3 ob_62.2) rfl rfl dX5_hourBy_24 (s5_layWet h) (gV tbc kM_RX5_121_X5_layWet kI_X5_layWet kS_X5_layWet kN_RX5 kC_X5_layWet) rfl (by decide +kernel) ⟨Nat.le_of_ble_eq_true rfl, Nat.le_of_ble_eq_true rfl⟩ rfl rfl (Nat.le_of_ble_eq_true rfl) ⟨Nat.le_refl 0, Nat.le_refl 0⟩ (fun M h => ?_)
  refine a_iconst (v := 0) dX5_hourBy_27 (by decide) ?_
  refine a_istore_n (i := 2) (L' := [(2, .int _), (0, .ref _), (1, .int _)]) dX5_hourBy_28 rfl (by decide) rfl ?_
  refine a_sub [1, 0] rfl ?_
  exact s5_hourBy_c29 _ _ _ h

/-! X5_goHours -/
theorem dX5_goHours_0 : decode cX5_goHours 0 = .ok (.iconst 0, 1) := by decide +kernel
theorem dX5_goHours_1 : decode cX5_goHours 1 = .ok (.istore_n 2, 1) := by decide +kernel
theorem dX5_goHours_2 : decode cX5_goHours 2 = .ok (.iload_n 2, 1) := by decide +kernel
theorem dX5_goHours_3 : decode cX5_goHours 3 = .ok (.iload_n 1, 1) := by decide +kernel
theorem dX5_goHours_4 : decode cX5_goHours 4 = .ok (.if_icmp .ge 14, 3) := by decide +kernel
theorem dX5_goHours_7 : decode cX5_goHours 7 = .ok (.aload_n 0, 1) := by decide +kernel
theorem dX5_goHours_8 : decode cX5_goHours 8 = .ok (.iconst 0, 1) := by decide +kernel
theorem dX5_goHours_9 : decode cX5_goHours 9 = .ok (.invokevirtual 146, 3) := by decide +kernel
theorem dX5_goHours_12 : decode cX5_goHours 12 = .ok (.iinc 2 1, 3) := by decide +kernel
theorem dX5_goHours_15 : decode cX5_goHours 15 = .ok (.goto (-13), 3) := by decide +kernel
theorem dX5_goHours_18 : decode cX5_goHours 18 = .ok (.return_, 1) := by decide +kernel
abbrev A5_goHours (G : GG) (Q : MM → Prop) := AW G E0 (MZ G (qV Q)) (WY yX5_goHours cX5_goHours 3 none) RX5 cX5_goHours 3 none ({ frames := 4, cells := 0, slots := 0, locals := 89 } : Room) 0 0
def D5_goHours_c2 (Q : MM → Prop) : Nat → Int32 → Int32 → MM → Prop
  | 0, _, _, _ => False
  | n + 1, x1, x2, M => ((x1 ≤ x2 → Q M) ∧ (¬ x1 ≤ x2 → D5_hourBy (0 : Int32) M (fun (M2 : MM) => (fun v3 : Int32 => D5_goHours_c2 Q n x1 v3 M2) (x2 + (1 : Int32)))))
def D5_goHours (x1 : Int32) (M : MM) (Q : MM → Prop) : Prop := D5_goHours_c2 Q FU x1 (0 : Int32) M
set_option maxHeartbeats 4000000 in
set_option maxRecDepth 100000 in
theorem s5_goHours_c2 {G : GG} {Q : MM → Prop} : ∀ (n : Nat) (x1 : Int32) (x2 : Int32) (M : MM), D5_goHours_c2 Q n x1 x2 M → A5_goHours G Q 2 [(0, .ref (gA G 62)), (1, .int x1), (2, .int x2)] [] M := by
  intro n
  induction n with
  | zero => intro x1 x2 M h; exact h.elim
  | succ n ih =>
    intro x1 x2 M h
    unfold D5_goHours_c2 at h
    refine a_iload_n dX5_goHours_2 2 rfl ?_
    refine a_iload_n dX5_goHours_3 1 rfl ?_
    refine a_icmp_ge (tgt := 18) dX5_goHours_4 (by decide) (fun c => ?_) (fun c => ?_)
    · have h := h.1 c
      exact a_vret dX5_goHours_18 ⟨rfl, h⟩
    · have h := h.2 c
      refine a_aload_n dX5_goHours_7 0 rfl ?_
      refine a_iconst (v := 0) dX5_goHours_8 (by decide) ?_
      refine a_callVv (n := 1) [.int _] (C := RX5) (ci := 3) (qc := (RX5, TX5, 40)) (fsF := fl3 G _) ob_62.1 (fun _ => en3 ob_62.2) rfl rfl dX5_goHours_9 (s5_hourBy h) (gV tbc kM_RX5_146_X5_hourBy kI_X5_hourBy kS_X5_hourBy kN_RX5 kC_X5_hourBy) rfl (by decide +kernel) ⟨Nat.le_of_ble_eq_true rfl, Nat.le_of_ble_eq_true rfl⟩ rfl rfl (Nat.le_of_ble_eq_true rfl) ⟨Nat.le_refl 0, Nat.le_refl 0⟩ (fun M h => ?_)
      refine a_iinc (L' := [(2, .int _), (0, .ref _), (1, .int _)]) dX5_goHours_12 2 rfl (show _ + Int32.ofInt (1 : Int) = _ + (1 : Int32) from rfl) (by decide) rfl ?_
      refine a_goto (tgt := 2) dX5_goHours_15 (by decide) ?_
      refine a_sub [1, 2, 0] rfl ?_
      exact ih _ _ _ h
set_option maxHeartbeats 4000000 in
set_option maxRecDepth 100000 in
theorem s5_goHours {G : GG} {x1 : Int32} {M : MM} {Q : MM → Prop} (h : D5_goHours x1 M Q) : CM G yX5_goHours (WY yX5_goHours cX5_goHours 3 none) 4 89 [.ref (gA G 62), .int x1] M (qV Q) := by
  refine CM.of (cc := cX5_goHours) (nL := 3) (ret := none) (own := RX5) (by decide +kernel) rfl rfl (Nat.le_of_ble_eq_true rfl) ?_
  show A5_goHours G Q 0 [(0, .ref (gA G 62)), (1, .int x1)] [] M
  unfold D5_goHours at h
  refine a_iconst (v := 0) dX5_goHours_0 (by decide) ?_
  refine a_istore_n (i := 2) (L' := [(2, .int _), (0, .ref _), (1, .int _)]) dX5_goHours_1 rfl (by decide) rfl ?_
  refine a_sub [1, 2, 0] rfl ?_
  exact s5_goHours_c2 _ _ _ _ h

/-! X5_isWork -/
theorem dX5_isWork_0 : decode cX5_isWork 0 = .ok (.iload_n 1, 1) := by decide +kernel
theorem dX5_isWork_1 : decode cX5_isWork 1 = .ok (.i2l, 1) := by decide +kernel
theorem dX5_isWork_2 : decode cX5_isWork 2 = .ok (.lconst 0, 1) := by decide +kernel
theorem dX5_isWork_3 : decode cX5_isWork 3 = .ok (.aload_n 0, 1) := by decide +kernel
theorem dX5_isWork_4 : decode cX5_isWork 4 = .ok (.getfield 77, 3) := by decide +kernel
theorem dX5_isWork_7 : decode cX5_isWork 7 = .ok (.iconst 1, 1) := by decide +kernel
theorem dX5_isWork_8 : decode cX5_isWork 8 = .ok (.isub, 1) := by decide +kernel
theorem dX5_isWork_9 : decode cX5_isWork 9 = .ok (.i2l, 1) := by decide +kernel
theorem dX5_isWork_10 : decode cX5_isWork 10 = .ok (.invokestatic 80, 3) := by decide +kernel
theorem dX5_isWork_13 : decode cX5_isWork 13 = .ok (.ireturn, 1) := by decide +kernel
abbrev A5_isWork (G : GG) (Q : Int32 → MM → Prop) := AW G E0 (MZ G (qI Q)) (WY yX5_isWork cX5_isWork 2 (some .boolean)) RX5 cX5_isWork 2 (some .boolean) ({ frames := 1, cells := 0, slots := 0, locals := 25 } : Room) 0 0
def D5_isWork (x1 : Int32) (M : MM) (Q : Int32 → MM → Prop) : Prop := D5_in x1.toInt64 (0 : Int64) (((M 62 0) - (1 : Int32)).toInt64) M (fun (r1 : Int32) (M2 : MM) => bo r1 ∧ Q r1 M2)
set_option maxHeartbeats 4000000 in
set_option maxRecDepth 100000 in
theorem s5_isWork {G : GG} {x1 : Int32} {M : MM} {Q : Int32 → MM → Prop} (h : D5_isWork x1 M Q) : CM G yX5_isWork (WY yX5_isWork cX5_isWork 2 (some .boolean)) 1 25 [.ref (gA G 62), .int x1] M (qI Q) := by
  refine CM.of (cc := cX5_isWork) (nL := 2) (ret := (some .boolean)) (own := RX5) (by decide +kernel) rfl rfl (Nat.le_of_ble_eq_true rfl) ?_
  show A5_isWork G Q 0 [(0, .ref (gA G 62)), (1, .int x1)] [] M
  unfold D5_isWork at h
  refine a_iload_n dX5_isWork_0 1 rfl ?_
  refine a_i2l dX5_isWork_1 ?_
  refine a_lconst (v := 0) dX5_isWork_2 (by decide) ?_
  refine a_aload_n dX5_isWork_3 0 rfl ?_
  refine a_get3 dX5_isWork_4 0 (by decide) (tbc _ kF_RX5_77) (fun w h => tbc _ (uW3 w h)) rfl ob_62 rfl ?_
  refine a_iconst (v := 1) dX5_isWork_7 (by decide) ?_
  refine a_isub dX5_isWork_8 ?_
  refine a_i2l dX5_isWork_9 ?_
  refine a_callSi (n := 3) [.long _, .long _, .long _] dX5_isWork_10 (s5_in h) (gS tbc kM_RX5_80_X5_in kT_X5_in kN_RX5 kC_X5_in) rfl (by decide +kernel) ⟨Nat.le_of_ble_eq_true rfl, Nat.le_of_ble_eq_true rfl⟩ rfl rfl (Nat.le_of_ble_eq_true rfl) ⟨Nat.le_refl 0, Nat.le_refl 0⟩ (fun r M h => ?_)
  exact a_zret dX5_isWork_13 h.1 ⟨_, rfl, h.2⟩

/-! X5_isStanding -/
theorem dX5_isStanding_0 : decode cX5_isStanding 0 = .ok (.aload_n 0, 1) := by decide +kernel
theorem dX5_isStanding_1 : decode cX5_isStanding 1 = .ok (.iload_n 1, 1) := by decide +kernel
theorem dX5_isStanding_2 : decode cX5_isStanding 2 = .ok (.invokevirtual 182, 3) := by decide +kernel
theorem dX5_isStanding_5 : decode cX5_isStanding 5 = .ok (.ifCond .eq 16, 3) := by decide +kernel
theorem dX5_isStanding_8 : decode cX5_isStanding 8 = .ok (.aload_n 0, 1) := by decide +kernel
theorem dX5_isStanding_9 : decode cX5_isStanding 9 = .ok (.getfield 22, 3) := by decide +kernel
theorem dX5_isStanding_12 : decode cX5_isStanding 12 = .ok (.iload_n 1, 1) := by decide +kernel
theorem dX5_isStanding_13 : decode cX5_isStanding 13 = .ok (.iaload, 1) := by decide +kernel
theorem dX5_isStanding_14 : decode cX5_isStanding 14 = .ok (.ifCond .ne 7, 3) := by decide +kernel
theorem dX5_isStanding_17 : decode cX5_isStanding 17 = .ok (.iconst 1, 1) := by decide +kernel
theorem dX5_isStanding_18 : decode cX5_isStanding 18 = .ok (.goto 4, 3) := by decide +kernel
theorem dX5_isStanding_21 : decode cX5_isStanding 21 = .ok (.iconst 0, 1) := by decide +kernel
theorem dX5_isStanding_22 : decode cX5_isStanding 22 = .ok (.ireturn, 1) := by decide +kernel
abbrev A5_isStanding (G : GG) (Q : Int32 → MM → Prop) := AW G E0 (MZ G (qI Q)) (WY yX5_isStanding cX5_isStanding 2 (some .boolean)) RX5 cX5_isStanding 2 (some .boolean) ({ frames := 2, cells := 0, slots := 0, locals := 46 } : Room) 0 0
def D5_isStanding (x1 : Int32) (M : MM) (Q : Int32 → MM → Prop) : Prop := D5_isWork x1 M (fun (r1 : Int32) (M2 : MM) => ((r1 = 0 → Q (0 : Int32) M2) ∧ (¬ r1 = 0 → ib 67 x1 ∧ (((M2 67 (ix x1)) ≠ 0 → Q (0 : Int32) M2) ∧ ((M2 67 (ix x1)) = 0 → Q (1 : Int32) M2)))))
set_option maxHeartbeats 4000000 in
set_option maxRecDepth 100000 in
theorem s5_isStanding {G : GG} {x1 : Int32} {M : MM} {Q : Int32 → MM → Prop} (h : D5_isStanding x1 M Q) : CM G yX5_isStanding (WY yX5_isStanding cX5_isStanding 2 (some .boolean)) 2 46 [.ref (gA G 62), .int x1] M (qI Q) := by
  refine CM.of (cc := cX5_isStanding) (nL := 2) (ret := (some .boolean)) (own := RX5) (by decide +kernel) rfl rfl (Nat.le_of_ble_eq_true rfl) ?_
  show A5_isStanding G Q 0 [(0, .ref (gA G 62)), (1, .int x1)] [] M
  unfold D5_isStanding at h
  refine a_aload_n dX5_isStanding_0 0 rfl ?_
  refine a_iload_n dX5_isStanding_1 1 rfl ?_
  refine a_callVi (n := 1) [.int _] (C := RX5) (ci := 3) (qc := (RX5, TX5, 40)) (fsF := fl3 G _) ob_62.1 (fun _ => en3 ob_62.2) rfl rfl dX5_isStanding_2 (s5_isWork h) (gV tbc kM_RX5_182_X5_isWork kI_X5_isWork kS_X5_isWork kN_RX5 kC_X5_isWork) rfl (by decide +kernel) ⟨Nat.le_of_ble_eq_true rfl, Nat.le_of_ble_eq_true rfl⟩ rfl rfl (Nat.le_of_ble_eq_true rfl) ⟨Nat.le_refl 0, Nat.le_refl 0⟩ (fun r M h => ?_)
  refine a_if_eq (tgt := 21) dX5_isStanding_5 (by decide) (fun c => ?_) (fun c => ?_)
  · have h := h.1 c
    refine a_iconst (v := 0) dX5_isStanding_21 (by decide) ?_
    exact a_zret dX5_isStanding_22 (Or.inl rfl) ⟨_, rfl, h⟩
  · have h := h.2 c
    refine a_aload_n dX5_isStanding_8 0 rfl ?_
    refine a_get3 dX5_isStanding_9 5 (by decide) (tbc _ kF_RX5_22) (fun w h => tbc _ (uW3 w h)) rfl ob_62 rfl ?_
    refine a_iload_n dX5_isStanding_12 1 rfl ?_
    refine a_iald dX5_isStanding_13 h.1 ?_
    have h := h.2
    refine a_if_ne (tgt := 21) dX5_isStanding_14 (by decide) (fun c => ?_) (fun c => ?_)
    · have h := h.1 c
      refine a_iconst (v := 0) dX5_isStanding_21 (by decide) ?_
      exact a_zret dX5_isStanding_22 (Or.inl rfl) ⟨_, rfl, h⟩
    · have h := h.2 c
      refine a_iconst (v := 1) dX5_isStanding_17 (by decide) ?_
      refine a_goto (tgt := 22) dX5_isStanding_18 (by decide) ?_
      exact a_zret dX5_isStanding_22 (Or.inr rfl) ⟨_, rfl, h⟩

/-! X5_comesTold -/
theorem dX5_comesTold_0 : decode cX5_comesTold 0 = .ok (.aload_n 0, 1) := by decide +kernel
theorem dX5_comesTold_1 : decode cX5_comesTold 1 = .ok (.getfield 43, 3) := by decide +kernel
theorem dX5_comesTold_4 : decode cX5_comesTold 4 = .ok (.iconst 3, 1) := by decide +kernel
theorem dX5_comesTold_5 : decode cX5_comesTold 5 = .ok (.iload_n 1, 1) := by decide +kernel
theorem dX5_comesTold_6 : decode cX5_comesTold 6 = .ok (.imul, 1) := by decide +kernel
theorem dX5_comesTold_7 : decode cX5_comesTold 7 = .ok (.iaload, 1) := by decide +kernel
theorem dX5_comesTold_8 : decode cX5_comesTold 8 = .ok (.istore_n 2, 1) := by decide +kernel
theorem dX5_comesTold_9 : decode cX5_comesTold 9 = .ok (.aload_n 0, 1) := by decide +kernel
theorem dX5_comesTold_10 : decode cX5_comesTold 10 = .ok (.getfield 43, 3) := by decide +kernel
theorem dX5_comesTold_13 : decode cX5_comesTold 13 = .ok (.iconst 3, 1) := by decide +kernel
theorem dX5_comesTold_14 : decode cX5_comesTold 14 = .ok (.iload_n 1, 1) := by decide +kernel
theorem dX5_comesTold_15 : decode cX5_comesTold 15 = .ok (.imul, 1) := by decide +kernel
theorem dX5_comesTold_16 : decode cX5_comesTold 16 = .ok (.iconst 1, 1) := by decide +kernel
theorem dX5_comesTold_17 : decode cX5_comesTold 17 = .ok (.iadd, 1) := by decide +kernel
theorem dX5_comesTold_18 : decode cX5_comesTold 18 = .ok (.iaload, 1) := by decide +kernel
theorem dX5_comesTold_19 : decode cX5_comesTold 19 = .ok (.istore_n 3, 1) := by decide +kernel
theorem dX5_comesTold_20 : decode cX5_comesTold 20 = .ok (.aload_n 0, 1) := by decide +kernel
theorem dX5_comesTold_21 : decode cX5_comesTold 21 = .ok (.getfield 43, 3) := by decide +kernel
theorem dX5_comesTold_24 : decode cX5_comesTold 24 = .ok (.iconst 3, 1) := by decide +kernel
theorem dX5_comesTold_25 : decode cX5_comesTold 25 = .ok (.iload_n 1, 1) := by decide +kernel
theorem dX5_comesTold_26 : decode cX5_comesTold 26 = .ok (.imul, 1) := by decide +kernel
theorem dX5_comesTold_27 : decode cX5_comesTold 27 = .ok (.iconst 2, 1) := by decide +kernel
theorem dX5_comesTold_28 : decode cX5_comesTold 28 = .ok (.iadd, 1) := by decide +kernel
theorem dX5_comesTold_29 : decode cX5_comesTold 29 = .ok (.iaload, 1) := by decide +kernel
theorem dX5_comesTold_30 : decode cX5_comesTold 30 = .ok (.istore 4, 2) := by decide +kernel
theorem dX5_comesTold_32 : decode cX5_comesTold 32 = .ok (.iconst 1, 1) := by decide +kernel
theorem dX5_comesTold_33 : decode cX5_comesTold 33 = .ok (.istore 5, 2) := by decide +kernel
theorem dX5_comesTold_35 : decode cX5_comesTold 35 = .ok (.aload_n 0, 1) := by decide +kernel
theorem dX5_comesTold_36 : decode cX5_comesTold 36 = .ok (.getfield 40, 3) := by decide +kernel
theorem dX5_comesTold_39 : decode cX5_comesTold 39 = .ok (.iload_n 1, 1) := by decide +kernel
theorem dX5_comesTold_40 : decode cX5_comesTold 40 = .ok (.iaload, 1) := by decide +kernel
theorem dX5_comesTold_41 : decode cX5_comesTold 41 = .ok (.lookupswitch 141 #[(104, 97), (112, 90), (119, 35)], 35) := by decide +kernel
theorem dX5_comesTold_76 : decode cX5_comesTold 76 = .ok (.iload_n 2, 1) := by decide +kernel
theorem dX5_comesTold_77 : decode cX5_comesTold 77 = .ok (.bipush 6, 2) := by decide +kernel
theorem dX5_comesTold_79 : decode cX5_comesTold 79 = .ok (.if_icmp .ge 33, 3) := by decide +kernel
theorem dX5_comesTold_82 : decode cX5_comesTold 82 = .ok (.iload 4, 2) := by decide +kernel
theorem dX5_comesTold_84 : decode cX5_comesTold 84 = .ok (.invokestatic 185, 3) := by decide +kernel
theorem dX5_comesTold_87 : decode cX5_comesTold 87 = .ok (.ifCond .eq 25, 3) := by decide +kernel
theorem dX5_comesTold_90 : decode cX5_comesTold 90 = .ok (.aload_n 0, 1) := by decide +kernel
theorem dX5_comesTold_91 : decode cX5_comesTold 91 = .ok (.getfield 77, 3) := by decide +kernel
theorem dX5_comesTold_94 : decode cX5_comesTold 94 = .ok (.bipush 8, 2) := by decide +kernel
theorem dX5_comesTold_96 : decode cX5_comesTold 96 = .ok (.if_icmp .ge 16, 3) := by decide +kernel
theorem dX5_comesTold_99 : decode cX5_comesTold 99 = .ok (.aload_n 0, 1) := by decide +kernel
theorem dX5_comesTold_100 : decode cX5_comesTold 100 = .ok (.iload 4, 2) := by decide +kernel
theorem dX5_comesTold_102 : decode cX5_comesTold 102 = .ok (.invokevirtual 188, 3) := by decide +kernel
theorem dX5_comesTold_105 : decode cX5_comesTold 105 = .ok (.ifCond .ge 7, 3) := by decide +kernel
theorem dX5_comesTold_108 : decode cX5_comesTold 108 = .ok (.iconst 1, 1) := by decide +kernel
theorem dX5_comesTold_109 : decode cX5_comesTold 109 = .ok (.goto 4, 3) := by decide +kernel
theorem dX5_comesTold_112 : decode cX5_comesTold 112 = .ok (.iconst 0, 1) := by decide +kernel
theorem dX5_comesTold_113 : decode cX5_comesTold 113 = .ok (.istore 5, 2) := by decide +kernel
theorem dX5_comesTold_115 : decode cX5_comesTold 115 = .ok (.iload 5, 2) := by decide +kernel
theorem dX5_comesTold_117 : decode cX5_comesTold 117 = .ok (.ifCond .eq 11, 3) := by decide +kernel
theorem dX5_comesTold_120 : decode cX5_comesTold 120 = .ok (.aload_n 0, 1) := by decide +kernel
theorem dX5_comesTold_121 : decode cX5_comesTold 121 = .ok (.iload_n 2, 1) := by decide +kernel
theorem dX5_comesTold_122 : decode cX5_comesTold 122 = .ok (.iload_n 3, 1) := by decide +kernel
theorem dX5_comesTold_123 : decode cX5_comesTold 123 = .ok (.iload 4, 2) := by decide +kernel
theorem dX5_comesTold_125 : decode cX5_comesTold 125 = .ok (.invokevirtual 191, 3) := by decide +kernel
theorem dX5_comesTold_128 : decode cX5_comesTold 128 = .ok (.iload 5, 2) := by decide +kernel
theorem dX5_comesTold_130 : decode cX5_comesTold 130 = .ok (.ireturn, 1) := by decide +kernel
theorem dX5_comesTold_131 : decode cX5_comesTold 131 = .ok (.aload_n 0, 1) := by decide +kernel
theorem dX5_comesTold_132 : decode cX5_comesTold 132 = .ok (.invokevirtual 195, 3) := by decide +kernel
theorem dX5_comesTold_135 : decode cX5_comesTold 135 = .ok (.pop, 1) := by decide +kernel
theorem dX5_comesTold_136 : decode cX5_comesTold 136 = .ok (.iconst 1, 1) := by decide +kernel
theorem dX5_comesTold_137 : decode cX5_comesTold 137 = .ok (.ireturn, 1) := by decide +kernel
theorem dX5_comesTold_138 : decode cX5_comesTold 138 = .ok (.iload_n 2, 1) := by decide +kernel
theorem dX5_comesTold_139 : decode cX5_comesTold 139 = .ok (.i2l, 1) := by decide +kernel
theorem dX5_comesTold_140 : decode cX5_comesTold 140 = .ok (.lconst 1, 1) := by decide +kernel
theorem dX5_comesTold_141 : decode cX5_comesTold 141 = .ok (.ldc2_w 198, 3) := by decide +kernel
theorem dX5_comesTold_144 : decode cX5_comesTold 144 = .ok (.invokestatic 80, 3) := by decide +kernel
theorem dX5_comesTold_147 : decode cX5_comesTold 147 = .ok (.ifCond .eq 19, 3) := by decide +kernel
theorem dX5_comesTold_150 : decode cX5_comesTold 150 = .ok (.aload_n 0, 1) := by decide +kernel
theorem dX5_comesTold_151 : decode cX5_comesTold 151 = .ok (.getfield 114, 3) := by decide +kernel
theorem dX5_comesTold_154 : decode cX5_comesTold 154 = .ok (.iload_n 2, 1) := by decide +kernel
theorem dX5_comesTold_155 : decode cX5_comesTold 155 = .ok (.iadd, 1) := by decide +kernel
theorem dX5_comesTold_156 : decode cX5_comesTold 156 = .ok (.sipush 999, 3) := by decide +kernel
theorem dX5_comesTold_159 : decode cX5_comesTold 159 = .ok (.if_icmp .gt 7, 3) := by decide +kernel
theorem dX5_comesTold_162 : decode cX5_comesTold 162 = .ok (.iconst 1, 1) := by decide +kernel
theorem dX5_comesTold_163 : decode cX5_comesTold 163 = .ok (.goto 4, 3) := by decide +kernel
theorem dX5_comesTold_166 : decode cX5_comesTold 166 = .ok (.iconst 0, 1) := by decide +kernel
theorem dX5_comesTold_167 : decode cX5_comesTold 167 = .ok (.istore 5, 2) := by decide +kernel
theorem dX5_comesTold_169 : decode cX5_comesTold 169 = .ok (.iload 5, 2) := by decide +kernel
theorem dX5_comesTold_171 : decode cX5_comesTold 171 = .ok (.ifCond .eq 8, 3) := by decide +kernel
theorem dX5_comesTold_174 : decode cX5_comesTold 174 = .ok (.aload_n 0, 1) := by decide +kernel
theorem dX5_comesTold_175 : decode cX5_comesTold 175 = .ok (.iload_n 2, 1) := by decide +kernel
theorem dX5_comesTold_176 : decode cX5_comesTold 176 = .ok (.invokevirtual 200, 3) := by decide +kernel
theorem dX5_comesTold_179 : decode cX5_comesTold 179 = .ok (.iload 5, 2) := by decide +kernel
theorem dX5_comesTold_181 : decode cX5_comesTold 181 = .ok (.ireturn, 1) := by decide +kernel
theorem dX5_comesTold_182 : decode cX5_comesTold 182 = .ok (.aload_n 0, 1) := by decide +kernel
theorem dX5_comesTold_183 : decode cX5_comesTold 183 = .ok (.iload_n 2, 1) := by decide +kernel
theorem dX5_comesTold_184 : decode cX5_comesTold 184 = .ok (.invokevirtual 203, 3) := by decide +kernel
theorem dX5_comesTold_187 : decode cX5_comesTold 187 = .ok (.istore 5, 2) := by decide +kernel
theorem dX5_comesTold_189 : decode cX5_comesTold 189 = .ok (.iload 5, 2) := by decide +kernel
theorem dX5_comesTold_191 : decode cX5_comesTold 191 = .ok (.ifCond .eq 24, 3) := by decide +kernel
theorem dX5_comesTold_194 : decode cX5_comesTold 194 = .ok (.aload_n 0, 1) := by decide +kernel
theorem dX5_comesTold_195 : decode cX5_comesTold 195 = .ok (.getfield 40, 3) := by decide +kernel
theorem dX5_comesTold_198 : decode cX5_comesTold 198 = .ok (.iload_n 1, 1) := by decide +kernel
theorem dX5_comesTold_199 : decode cX5_comesTold 199 = .ok (.iaload, 1) := by decide +kernel
theorem dX5_comesTold_200 : decode cX5_comesTold 200 = .ok (.bipush 114, 2) := by decide +kernel
theorem dX5_comesTold_202 : decode cX5_comesTold 202 = .ok (.if_icmp .ne 13, 3) := by decide +kernel
theorem dX5_comesTold_205 : decode cX5_comesTold 205 = .ok (.aload_n 0, 1) := by decide +kernel
theorem dX5_comesTold_206 : decode cX5_comesTold 206 = .ok (.getfield 22, 3) := by decide +kernel
theorem dX5_comesTold_209 : decode cX5_comesTold 209 = .ok (.iload_n 2, 1) := by decide +kernel
theorem dX5_comesTold_210 : decode cX5_comesTold 210 = .ok (.iconst 1, 1) := by decide +kernel
theorem dX5_comesTold_211 : decode cX5_comesTold 211 = .ok (.iastore, 1) := by decide +kernel
theorem dX5_comesTold_212 : decode cX5_comesTold 212 = .ok (.goto 30, 3) := by decide +kernel
theorem dX5_comesTold_215 : decode cX5_comesTold 215 = .ok (.iload 5, 2) := by decide +kernel
theorem dX5_comesTold_217 : decode cX5_comesTold 217 = .ok (.ifCond .eq 25, 3) := by decide +kernel
theorem dX5_comesTold_220 : decode cX5_comesTold 220 = .ok (.aload_n 0, 1) := by decide +kernel
theorem dX5_comesTold_221 : decode cX5_comesTold 221 = .ok (.getfield 19, 3) := by decide +kernel
theorem dX5_comesTold_224 : decode cX5_comesTold 224 = .ok (.iload_n 2, 1) := by decide +kernel
theorem dX5_comesTold_225 : decode cX5_comesTold 225 = .ok (.aload_n 0, 1) := by decide +kernel
theorem dX5_comesTold_226 : decode cX5_comesTold 226 = .ok (.getfield 40, 3) := by decide +kernel
theorem dX5_comesTold_229 : decode cX5_comesTold 229 = .ok (.iload_n 1, 1) := by decide +kernel
theorem dX5_comesTold_230 : decode cX5_comesTold 230 = .ok (.iaload, 1) := by decide +kernel
theorem dX5_comesTold_231 : decode cX5_comesTold 231 = .ok (.bipush 102, 2) := by decide +kernel
theorem dX5_comesTold_233 : decode cX5_comesTold 233 = .ok (.if_icmp .ne 7, 3) := by decide +kernel
theorem dX5_comesTold_236 : decode cX5_comesTold 236 = .ok (.iconst 0, 1) := by decide +kernel
theorem dX5_comesTold_237 : decode cX5_comesTold 237 = .ok (.goto 4, 3) := by decide +kernel
theorem dX5_comesTold_240 : decode cX5_comesTold 240 = .ok (.iload_n 3, 1) := by decide +kernel
theorem dX5_comesTold_241 : decode cX5_comesTold 241 = .ok (.iastore, 1) := by decide +kernel
theorem dX5_comesTold_242 : decode cX5_comesTold 242 = .ok (.iload 5, 2) := by decide +kernel
theorem dX5_comesTold_244 : decode cX5_comesTold 244 = .ok (.ireturn, 1) := by decide +kernel
abbrev A5_comesTold (G : GG) (Q : Int32 → MM → Prop) := AW G E0 (MZ G (qI Q)) (WY yX5_comesTold cX5_comesTold 6 (some .boolean)) RX5 cX5_comesTold 6 (some .boolean) ({ frames := 5, cells := 0, slots := 0, locals := 111 } : Room) 0 0
def D5_comesTold_c113 (Q : Int32 → MM → Prop) (x2 : Int32) (x3 : Int32) (x4 : Int32) (s0 : Int32) (M : MM) : Prop := ((s0 = 0 → bo s0 ∧ Q s0 M) ∧ (¬ s0 = 0 → D5_workComes x2 x3 x4 M (fun (M18 : MM) => bo s0 ∧ Q s0 M18)))
def D5_comesTold_c112 (Q : Int32 → MM → Prop) (x2 : Int32) (x3 : Int32) (x4 : Int32) (M : MM) : Prop := D5_comesTold_c113 Q x2 x3 x4 (0 : Int32) M
def D5_comesTold_c167 (Q : Int32 → MM → Prop) (x2 : Int32) (s0 : Int32) (M : MM) : Prop := ((s0 = 0 → bo s0 ∧ Q s0 M) ∧ (¬ s0 = 0 → D5_goHours x2 M (fun (M16 : MM) => bo s0 ∧ Q s0 M16)))
def D5_comesTold_c166 (Q : Int32 → MM → Prop) (x2 : Int32) (M : MM) : Prop := D5_comesTold_c167 Q x2 (0 : Int32) M
def D5_comesTold_c215 (Q : Int32 → MM → Prop) (x1 : Int32) (x2 : Int32) (x3 : Int32) (x5 : Int32) (M : MM) : Prop := ((x5 = 0 → bo x5 ∧ Q x5 M) ∧ (¬ x5 = 0 → ib 73 x1 ∧ (((M 73 (ix x1)) ≠ (102 : Int32) → ib 66 x2 ∧ (fun M19 : MM => bo x5 ∧ Q x5 M19) (up M 66 (ix x2) x3)) ∧ ((M 73 (ix x1)) = (102 : Int32) → ib 66 x2 ∧ (fun M20 : MM => bo x5 ∧ Q x5 M20) (up M 66 (ix x2) (0 : Int32))))))
def D5_comesTold (x1 : Int32) (M : MM) (Q : Int32 → MM → Prop) : Prop := ib 74 ((3 : Int32) * x1) ∧ (fun v1 : Int32 => ib 74 (((3 : Int32) * x1) + (1 : Int32)) ∧ (fun v2 : Int32 => ib 74 (((3 : Int32) * x1) + (2 : Int32)) ∧ (fun v3 : Int32 => ib 73 x1 ∧ (((M 73 (ix x1)) = 104 → D5_in v1.toInt64 (1 : Int64) (60 : Int64) M (fun (r4 : Int32) (M5 : MM) => ((r4 = 0 → D5_comesTold_c166 Q v1 M5) ∧ (¬ r4 = 0 → (((999 : Int32) < ((M5 62 8) + v1) → D5_comesTold_c166 Q v1 M5) ∧ (¬ (999 : Int32) < ((M5 62 8) + v1) → D5_comesTold_c167 Q v1 (1 : Int32) M5)))))) ∧ (¬ (M 73 (ix x1)) = 104 → (((M 73 (ix x1)) = 112 → D5_payAll M (fun (r6 : Int32) (M7 : MM) => Q (1 : Int32) M7)) ∧ (¬ (M 73 (ix x1)) = 112 → (((M 73 (ix x1)) = 119 → (((6 : Int32) ≤ v1 → D5_comesTold_c112 Q v1 v2 v3 M) ∧ (¬ (6 : Int32) ≤ v1 → D5_isCell v3 M (fun (r8 : Int32) (M9 : MM) => ((r8 = 0 → D5_comesTold_c112 Q v1 v2 v3 M9) ∧ (¬ r8 = 0 → (((8 : Int32) ≤ (M9 62 0) → D5_comesTold_c112 Q v1 v2 v3 M9) ∧ (¬ (8 : Int32) ≤ (M9 62 0) → D5_workAt v3 M9 (fun (r10 : Int32) (M11 : MM) => ((0 ≤ r10 → D5_comesTold_c112 Q v1 v2 v3 M11) ∧ (¬ 0 ≤ r10 → D5_comesTold_c113 Q v1 v2 v3 (1 : Int32) M11))))))))))) ∧ (¬ (M 73 (ix x1)) = 119 → D5_isStanding v1 M (fun (r12 : Int32) (M13 : MM) => ((r12 = 0 → D5_comesTold_c215 Q x1 v1 v2 r12 M13) ∧ (¬ r12 = 0 → ib 73 x1 ∧ (((M13 73 (ix x1)) ≠ (114 : Int32) → D5_comesTold_c215 Q x1 v1 v2 r12 M13) ∧ ((M13 73 (ix x1)) = (114 : Int32) → ib 67 v1 ∧ (fun M14 : MM => bo r12 ∧ Q r12 M14) (up M13 67 (ix v1) (1 : Int32)))))))))))))) (M 74 (ix (((3 : Int32) * x1) + (2 : Int32))))) (M 74 (ix (((3 : Int32) * x1) + (1 : Int32))))) (M 74 (ix ((3 : Int32) * x1)))
set_option maxHeartbeats 4000000 in
set_option maxRecDepth 100000 in
theorem s5_comesTold_c113 {G : GG} {Q : Int32 → MM → Prop} : ∀ (x2 : Int32) (x3 : Int32) (x4 : Int32) (s0 : Int32) (M : MM), D5_comesTold_c113 Q x2 x3 x4 s0 M → A5_comesTold G Q 113 [(0, .ref (gA G 62)), (2, .int x2), (3, .int x3), (4, .int x4)] [.int s0] M := by
  intro x2 x3 x4 s0 M h
  unfold D5_comesTold_c113 at h
  refine a_istore (i := 5) (L' := [(5, .int _), (0, .ref _), (2, .int _), (3, .int _), (4, .int _)]) dX5_comesTold_113 (by decide) rfl ?_
  refine a_iload dX5_comesTold_115 0 rfl ?_
  refine a_if_eq (tgt := 128) dX5_comesTold_117 (by decide) (fun c => ?_) (fun c => ?_)
  · have h := h.1 c
    refine a_iload dX5_comesTold_128 0 rfl ?_
    exact a_zret dX5_comesTold_130 h.1 ⟨_, rfl, h.2⟩
  · have h := h.2 c
    refine a_aload_n dX5_comesTold_120 1 rfl ?_
    refine a_iload_n dX5_comesTold_121 2 rfl ?_
    refine a_iload_n dX5_comesTold_122 3 rfl ?_
    refine a_iload dX5_comesTold_123 4 rfl ?_
    refine a_callVv (n := 3) [.int _, .int _, .int _] (C := RX5) (ci := 3) (qc := (RX5, TX5, 40)) (fsF := fl3 G _) ob_62.1 (fun _ => en3 ob_62.2) rfl rfl dX5_comesTold_125 (s5_workComes h) (gV tbc kM_RX5_191_X5_workComes kI_X5_workComes kS_X5_workComes kN_RX5 kC_X5_workComes) rfl (by decide +kernel) ⟨Nat.le_of_ble_eq_true rfl, Nat.le_of_ble_eq_true rfl⟩ rfl rfl (Nat.le_of_ble_eq_true rfl) ⟨Nat.le_refl 0, Nat.le_refl 0⟩ (fun M h => ?_)
    refine a_iload dX5_comesTold_128 0 rfl ?_
    exact a_zret dX5_comesTold_130 h.1 ⟨_, rfl, h.2⟩
set_option maxHeartbeats 4000000 in
set_option maxRecDepth 100000 in
theorem s5_comesTold_c112 {G : GG} {Q : Int32 → MM → Prop} : ∀ (x2 : Int32) (x3 : Int32) (x4 : Int32) (M : MM), D5_comesTold_c112 Q x2 x3 x4 M → A5_comesTold G Q 112 [(0, .ref (gA G 62)), (2, .int x2), (3, .int x3), (4, .int x4)] [] M := by
  intro x2 x3 x4 M h
  unfold D5_comesTold_c112 at h
  refine a_iconst (v := 0) dX5_comesTold_112 (by decide) ?_
  refine a_sub [0, 1, 2, 3] rfl ?_
  exact s5_comesTold_c113 _ _ _ _ _ h
set_option maxHeartbeats 4000000 in
set_option maxRecDepth 100000 in
theorem s5_comesTold_c167 {G : GG} {Q : Int32 → MM → Prop} : ∀ (x2 : Int32) (s0 : Int32) (M : MM), D5_comesTold_c167 Q x2 s0 M → A5_comesTold G Q 167 [(0, .ref (gA G 62)), (2, .int x2)] [.int s0] M := by
  intro x2 s0 M h
  unfold D5_comesTold_c167 at h
  refine a_istore (i := 5) (L' := [(5, .int _), (0, .ref _), (2, .int _)]) dX5_comesTold_167 (by decide) rfl ?_
  refine a_iload dX5_comesTold_169 0 rfl ?_
  refine a_if_eq (tgt := 179) dX5_comesTold_171 (by decide) (fun c => ?_) (fun c => ?_)
  · have h := h.1 c
    refine a_iload dX5_comesTold_179 0 rfl ?_
    exact a_zret dX5_comesTold_181 h.1 ⟨_, rfl, h.2⟩
  · have h := h.2 c
    refine a_aload_n dX5_comesTold_174 1 rfl ?_
    refine a_iload_n dX5_comesTold_175 2 rfl ?_
    refine a_callVv (n := 1) [.int _] (C := RX5) (ci := 3) (qc := (RX5, TX5, 40)) (fsF := fl3 G _) ob_62.1 (fun _ => en3 ob_62.2) rfl rfl dX5_comesTold_176 (s5_goHours h) (gV tbc kM_RX5_200_X5_goHours kI_X5_goHours kS_X5_goHours kN_RX5 kC_X5_goHours) rfl (by decide +kernel) ⟨Nat.le_of_ble_eq_true rfl, Nat.le_of_ble_eq_true rfl⟩ rfl rfl (Nat.le_of_ble_eq_true rfl) ⟨Nat.le_refl 0, Nat.le_refl 0⟩ (fun M h => ?_)
    refine a_iload dX5_comesTold_179 0 rfl ?_
    exact a_zret dX5_comesTold_181 h.1 ⟨_, rfl, h.2⟩
set_option maxHeartbeats 4000000 in
set_option maxRecDepth 100000 in
theorem s5_comesTold_c166 {G : GG} {Q : Int32 → MM → Prop} : ∀ (x2 : Int32) (M : MM), D5_comesTold_c166 Q x2 M → A5_comesTold G Q 166 [(0, .ref (gA G 62)), (2, .int x2)] [] M := by
  intro x2 M h
  unfold D5_comesTold_c166 at h
  refine a_iconst (v := 0) dX5_comesTold_166 (by decide) ?_
  refine a_sub [0, 1] rfl ?_
  exact s5_comesTold_c167 _ _ _ h
set_option maxHeartbeats 4000000 in
set_option maxRecDepth 100000 in
theorem s5_comesTold_c215 {G : GG} {Q : Int32 → MM → Prop} : ∀ (x1 : Int32) (x2 : Int32) (x3 : Int32) (x5 : Int32) (M : MM), D5_comesTold_c215 Q x1 x2 x3 x5 M → A5_comesTold G Q 215 [(0, .ref (gA G 62)), (1, .int x1), (2, .int x2), (3, .int x3), (5, .int x5)] [] M := by
  intro x1 x2 x3 x5 M h
  unfold D5_comesTold_c215 at h
  refine a_iload dX5_comesTold_215 4 rfl ?_
  refine a_if_eq (tgt := 242) dX5_comesTold_217 (by decide) (fun c => ?_) (fun c => ?_)
  · have h := h.1 c
    refine a_iload dX5_comesTold_242 4 rfl ?_
    exact a_zret dX5_comesTold_244 h.1 ⟨_, rfl, h.2⟩
  · have h := h.2 c
    refine a_aload_n dX5_comesTold_220 0 rfl ?_
    refine a_get3 dX5_comesTold_221 4 (by decide) (tbc _ kF_RX5_19) (fun w h => tbc _ (uW3 w h)) rfl ob_62 rfl ?_
    refine a_iload_n dX5_comesTold_224 2 rfl ?_
    refine a_aload_n dX5_comesTold_225 0 rfl ?_
    refine a_get3 dX5_comesTold_226 22 (by decide) (tbc _ kF_RX5_40) (fun w h => tbc _ (uW3 w h)) rfl ob_62 rfl ?_
    refine a_iload_n dX5_comesTold_229 1 rfl ?_
    refine a_iald dX5_comesTold_230 h.1 ?_
    have h := h.2
    refine a_bipush (v := 102) dX5_comesTold_231 (by decide) ?_
    refine a_icmp_ne (tgt := 240) dX5_comesTold_233 (by decide) (fun c => ?_) (fun c => ?_)
    · have h := h.1 c
      refine a_iload_n dX5_comesTold_240 3 rfl ?_
      refine a_iast dX5_comesTold_241 h.1 ?_
      have h := h.2
      refine a_iload dX5_comesTold_242 4 rfl ?_
      exact a_zret dX5_comesTold_244 h.1 ⟨_, rfl, h.2⟩
    · have h := h.2 c
      refine a_iconst (v := 0) dX5_comesTold_236 (by decide) ?_
      refine a_goto (tgt := 241) dX5_comesTold_237 (by decide) ?_
      refine a_iast dX5_comesTold_241 h.1 ?_
      have h := h.2
      refine a_iload dX5_comesTold_242 4 rfl ?_
      exact a_zret dX5_comesTold_244 h.1 ⟨_, rfl, h.2⟩
set_option maxHeartbeats 4000000 in
set_option maxRecDepth 100000 in
theorem s5_comesTold {G : GG} {x1 : Int32} {M : MM} {Q : Int32 → MM → Prop} (h : D5_comesTold x1 M Q) : CM G yX5_comesTold (WY yX5_comesTold cX5_comesTold 6 (some .boolean)) 5 111 [.ref (gA G 62), .int x1] M (qI Q) := by
  refine CM.of (cc := cX5_comesTold) (nL := 6) (ret := (some .boolean)) (own := RX5) (by decide +kernel) rfl rfl (Nat.le_of_ble_eq_true rfl) ?_
  show A5_comesTold G Q 0 [(0, .ref (gA G 62)), (1, .int x1)] [] M
  unfold D5_comesTold at h
  refine a_aload_n dX5_comesTold_0 0 rfl ?_
  refine a_get3 dX5_comesTold_1 23 (by decide) (tbc _ kF_RX5_43) (fun w h => tbc _ (uW3 w h)) rfl ob_62 rfl ?_
  refine a_iconst (v := 3) dX5_comesTold_4 (by decide) ?_
  refine a_iload_n dX5_comesTold_5 1 rfl ?_
  refine a_imul dX5_comesTold_6 ?_
  refine a_iald dX5_comesTold_7 h.1 ?_
  have h := h.2
  refine a_istore_n (i := 2) (L' := [(2, .int _), (0, .ref _), (1, .int _)]) dX5_comesTold_8 rfl (by decide) rfl ?_
  refine a_aload_n dX5_comesTold_9 1 rfl ?_
  refine a_get3 dX5_comesTold_10 23 (by decide) (tbc _ kF_RX5_43) (fun w h => tbc _ (uW3 w h)) rfl ob_62 rfl ?_
  refine a_iconst (v := 3) dX5_comesTold_13 (by decide) ?_
  refine a_iload_n dX5_comesTold_14 2 rfl ?_
  refine a_imul dX5_comesTold_15 ?_
  refine a_iconst (v := 1) dX5_comesTold_16 (by decide) ?_
  refine a_iadd dX5_comesTold_17 ?_
  refine a_iald dX5_comesTold_18 h.1 ?_
  have h := h.2
  refine a_istore_n (i := 3) (L' := [(3, .int _), (2, .int _), (0, .ref _), (1, .int _)]) dX5_comesTold_19 rfl (by decide) rfl ?_
  refine a_aload_n dX5_comesTold_20 2 rfl ?_
  refine a_get3 dX5_comesTold_21 23 (by decide) (tbc _ kF_RX5_43) (fun w h => tbc _ (uW3 w h)) rfl ob_62 rfl ?_
  refine a_iconst (v := 3) dX5_comesTold_24 (by decide) ?_
  refine a_iload_n dX5_comesTold_25 3 rfl ?_
  refine a_imul dX5_comesTold_26 ?_
  refine a_iconst (v := 2) dX5_comesTold_27 (by decide) ?_
  refine a_iadd dX5_comesTold_28 ?_
  refine a_iald dX5_comesTold_29 h.1 ?_
  have h := h.2
  refine a_istore (i := 4) (L' := [(4, .int _), (3, .int _), (2, .int _), (0, .ref _), (1, .int _)]) dX5_comesTold_30 (by decide) rfl ?_
  refine a_iconst (v := 1) dX5_comesTold_32 (by decide) ?_
  refine a_istore (i := 5) (L' := [(5, .int _), (4, .int _), (3, .int _), (2, .int _), (0, .ref _), (1, .int _)]) dX5_comesTold_33 (by decide) rfl ?_
  refine a_aload_n dX5_comesTold_35 4 rfl ?_
  refine a_get3 dX5_comesTold_36 22 (by decide) (tbc _ kF_RX5_40) (fun w h => tbc _ (uW3 w h)) rfl ob_62 rfl ?_
  refine a_iload_n dX5_comesTold_39 5 rfl ?_
  refine a_iald dX5_comesTold_40 h.1 ?_
  have h := h.2
  refine em_c h (fun c104 h => ?_) (fun c104 h => ?_)
  · refine a_lookup (off := 97) (tgt := 138) dX5_comesTold_41 (by decide) (by rw [c104]; decide) (by decide) ?_
    refine a_iload_n dX5_comesTold_138 3 rfl ?_
    refine a_i2l dX5_comesTold_139 ?_
    refine a_lconst (v := 1) dX5_comesTold_140 (by decide) ?_
    refine a_ldc2 dX5_comesTold_141 (tbc _ kL_RX5_198) ?_
    refine a_callSi (n := 3) [.long _, .long _, .long _] dX5_comesTold_144 (s5_in h) (gS tbc kM_RX5_80_X5_in kT_X5_in kN_RX5 kC_X5_in) rfl (by decide +kernel) ⟨Nat.le_of_ble_eq_true rfl, Nat.le_of_ble_eq_true rfl⟩ rfl rfl (Nat.le_of_ble_eq_true rfl) ⟨Nat.le_refl 0, Nat.le_refl 0⟩ (fun r M h => ?_)
    refine a_if_eq (tgt := 166) dX5_comesTold_147 (by decide) (fun c => ?_) (fun c => ?_)
    · have h := h.1 c
      refine a_sub [4, 3] rfl ?_
      exact s5_comesTold_c166 _ _ h
    · have h := h.2 c
      refine a_aload_n dX5_comesTold_150 4 rfl ?_
      refine a_get3 dX5_comesTold_151 8 (by decide) (tbc _ kF_RX5_114) (fun w h => tbc _ (uW3 w h)) rfl ob_62 rfl ?_
      refine a_iload_n dX5_comesTold_154 3 rfl ?_
      refine a_iadd dX5_comesTold_155 ?_
      refine a_sipush (v := 999) dX5_comesTold_156 (by decide) ?_
      refine a_icmp_gt (tgt := 166) dX5_comesTold_159 (by decide) (fun c => ?_) (fun c => ?_)
      · have h := h.1 c
        refine a_sub [4, 3] rfl ?_
        exact s5_comesTold_c166 _ _ h
      · have h := h.2 c
        refine a_iconst (v := 1) dX5_comesTold_162 (by decide) ?_
        refine a_goto (tgt := 167) dX5_comesTold_163 (by decide) ?_
        refine a_sub [4, 3] rfl ?_
        exact s5_comesTold_c167 _ _ _ h
  · refine em_c h (fun c112 h => ?_) (fun c112 h => ?_)
    · refine a_lookup (off := 90) (tgt := 131) dX5_comesTold_41 (by decide) (by rw [c112]; decide) (by decide) ?_
      refine a_aload_n dX5_comesTold_131 4 rfl ?_
      refine a_callVi (n := 0) [] (C := RX5) (ci := 3) (qc := (RX5, TX5, 40)) (fsF := fl3 G _) ob_62.1 (fun _ => en3 ob_62.2) rfl rfl dX5_comesTold_132 (s5_payAll h) (gV tbc kM_RX5_195_X5_payAll kI_X5_payAll kS_X5_payAll kN_RX5 kC_X5_payAll) rfl (by decide +kernel) ⟨Nat.le_of_ble_eq_true rfl, Nat.le_of_ble_eq_true rfl⟩ rfl rfl (Nat.le_of_ble_eq_true rfl) ⟨Nat.le_refl 0, Nat.le_refl 0⟩ (fun r M h => ?_)
      refine a_pop dX5_comesTold_135 rfl ?_
      refine a_iconst (v := 1) dX5_comesTold_136 (by decide) ?_
      exact a_zret dX5_comesTold_137 (Or.inr rfl) ⟨_, rfl, h⟩
    · refine em_c h (fun c119 h => ?_) (fun c119 h => ?_)
      · refine a_lookup (off := 35) (tgt := 76) dX5_comesTold_41 (by decide) (by rw [c119]; decide) (by decide) ?_
        refine a_iload_n dX5_comesTold_76 3 rfl ?_
        refine a_bipush (v := 6) dX5_comesTold_77 (by decide) ?_
        refine a_icmp_ge (tgt := 112) dX5_comesTold_79 (by decide) (fun c => ?_) (fun c => ?_)
        · have h := h.1 c
          refine a_sub [4, 3, 2, 1] rfl ?_
          exact s5_comesTold_c112 _ _ _ _ h
        · have h := h.2 c
          refine a_iload dX5_comesTold_82 1 rfl ?_
          refine a_callSi (n := 1) [.int _] dX5_comesTold_84 (s5_isCell h) (gS tbc kM_RX5_185_X5_isCell kT_X5_isCell kN_RX5 kC_X5_isCell) rfl (by decide +kernel) ⟨Nat.le_of_ble_eq_true rfl, Nat.le_of_ble_eq_true rfl⟩ rfl rfl (Nat.le_of_ble_eq_true rfl) ⟨Nat.le_refl 0, Nat.le_refl 0⟩ (fun r M h => ?_)
          refine a_if_eq (tgt := 112) dX5_comesTold_87 (by decide) (fun c => ?_) (fun c => ?_)
          · have h := h.1 c
            refine a_sub [4, 3, 2, 1] rfl ?_
            exact s5_comesTold_c112 _ _ _ _ h
          · have h := h.2 c
            refine a_aload_n dX5_comesTold_90 4 rfl ?_
            refine a_get3 dX5_comesTold_91 0 (by decide) (tbc _ kF_RX5_77) (fun w h => tbc _ (uW3 w h)) rfl ob_62 rfl ?_
            refine a_bipush (v := 8) dX5_comesTold_94 (by decide) ?_
            refine a_icmp_ge (tgt := 112) dX5_comesTold_96 (by decide) (fun c => ?_) (fun c => ?_)
            · have h := h.1 c
              refine a_sub [4, 3, 2, 1] rfl ?_
              exact s5_comesTold_c112 _ _ _ _ h
            · have h := h.2 c
              refine a_aload_n dX5_comesTold_99 4 rfl ?_
              refine a_iload dX5_comesTold_100 1 rfl ?_
              refine a_callVi (n := 1) [.int _] (C := RX5) (ci := 3) (qc := (RX5, TX5, 40)) (fsF := fl3 G _) ob_62.1 (fun _ => en3 ob_62.2) rfl rfl dX5_comesTold_102 (s5_workAt h) (gV tbc kM_RX5_188_X5_workAt kI_X5_workAt kS_X5_workAt kN_RX5 kC_X5_workAt) rfl (by decide +kernel) ⟨Nat.le_of_ble_eq_true rfl, Nat.le_of_ble_eq_true rfl⟩ rfl rfl (Nat.le_of_ble_eq_true rfl) ⟨Nat.le_refl 0, Nat.le_refl 0⟩ (fun r M h => ?_)
              refine a_if_ge (tgt := 112) dX5_comesTold_105 (by decide) (fun c => ?_) (fun c => ?_)
              · have h := h.1 c
                refine a_sub [4, 3, 2, 1] rfl ?_
                exact s5_comesTold_c112 _ _ _ _ h
              · have h := h.2 c
                refine a_iconst (v := 1) dX5_comesTold_108 (by decide) ?_
                refine a_goto (tgt := 113) dX5_comesTold_109 (by decide) ?_
                refine a_sub [4, 3, 2, 1] rfl ?_
                exact s5_comesTold_c113 _ _ _ _ _ h
      · refine a_lookup (off := 141) (tgt := 182) dX5_comesTold_41 (by decide) (lk_out (ne_ti c104 (by decide)) (ne_ti c112 (by decide)) (ne_ti c119 (by decide))) (by decide) ?_
        refine a_aload_n dX5_comesTold_182 4 rfl ?_
        refine a_iload_n dX5_comesTold_183 3 rfl ?_
        refine a_callVi (n := 1) [.int _] (C := RX5) (ci := 3) (qc := (RX5, TX5, 40)) (fsF := fl3 G _) ob_62.1 (fun _ => en3 ob_62.2) rfl rfl dX5_comesTold_184 (s5_isStanding h) (gV tbc kM_RX5_203_X5_isStanding kI_X5_isStanding kS_X5_isStanding kN_RX5 kC_X5_isStanding) rfl (by decide +kernel) ⟨Nat.le_of_ble_eq_true rfl, Nat.le_of_ble_eq_true rfl⟩ rfl rfl (Nat.le_of_ble_eq_true rfl) ⟨Nat.le_refl 0, Nat.le_refl 0⟩ (fun r M h => ?_)
        refine a_istore (i := 5) (L' := [(5, .int _), (4, .int _), (3, .int _), (2, .int _), (0, .ref _), (1, .int _)]) dX5_comesTold_187 (by decide) rfl ?_
        refine a_iload dX5_comesTold_189 0 rfl ?_
        refine a_if_eq (tgt := 215) dX5_comesTold_191 (by decide) (fun c => ?_) (fun c => ?_)
        · have h := h.1 c
          refine a_sub [4, 5, 3, 2, 0] rfl ?_
          exact s5_comesTold_c215 _ _ _ _ _ h
        · have h := h.2 c
          refine a_aload_n dX5_comesTold_194 4 rfl ?_
          refine a_get3 dX5_comesTold_195 22 (by decide) (tbc _ kF_RX5_40) (fun w h => tbc _ (uW3 w h)) rfl ob_62 rfl ?_
          refine a_iload_n dX5_comesTold_198 5 rfl ?_
          refine a_iald dX5_comesTold_199 h.1 ?_
          have h := h.2
          refine a_bipush (v := 114) dX5_comesTold_200 (by decide) ?_
          refine a_icmp_ne (tgt := 215) dX5_comesTold_202 (by decide) (fun c => ?_) (fun c => ?_)
          · have h := h.1 c
            refine a_sub [4, 5, 3, 2, 0] rfl ?_
            exact s5_comesTold_c215 _ _ _ _ _ h
          · have h := h.2 c
            refine a_aload_n dX5_comesTold_205 4 rfl ?_
            refine a_get3 dX5_comesTold_206 5 (by decide) (tbc _ kF_RX5_22) (fun w h => tbc _ (uW3 w h)) rfl ob_62 rfl ?_
            refine a_iload_n dX5_comesTold_209 3 rfl ?_
            refine a_iconst (v := 1) dX5_comesTold_210 (by decide) ?_
            refine a_iast dX5_comesTold_211 h.1 ?_
            have h := h.2
            refine a_goto (tgt := 242) dX5_comesTold_212 (by decide) ?_
            refine a_iload dX5_comesTold_242 0 rfl ?_
            exact a_zret dX5_comesTold_244 h.1 ⟨_, rfl, h.2⟩

/-! X5_beach -/
theorem dX5_beach_0 : decode cX5_beach 0 = .ok (.aload_n 0, 1) := by decide +kernel
theorem dX5_beach_1 : decode cX5_beach 1 = .ok (.iconst 0, 1) := by decide +kernel
theorem dX5_beach_2 : decode cX5_beach 2 = .ok (.putfield 73, 3) := by decide +kernel
theorem dX5_beach_5 : decode cX5_beach 5 = .ok (.aload_n 0, 1) := by decide +kernel
theorem dX5_beach_6 : decode cX5_beach 6 = .ok (.iconst 0, 1) := by decide +kernel
theorem dX5_beach_7 : decode cX5_beach 7 = .ok (.putfield 155, 3) := by decide +kernel
theorem dX5_beach_10 : decode cX5_beach 10 = .ok (.aload_n 0, 1) := by decide +kernel
theorem dX5_beach_11 : decode cX5_beach 11 = .ok (.iconst 0, 1) := by decide +kernel
theorem dX5_beach_12 : decode cX5_beach 12 = .ok (.putfield 158, 3) := by decide +kernel
theorem dX5_beach_15 : decode cX5_beach 15 = .ok (.aload_n 0, 1) := by decide +kernel
theorem dX5_beach_16 : decode cX5_beach 16 = .ok (.iconst 0, 1) := by decide +kernel
theorem dX5_beach_17 : decode cX5_beach 17 = .ok (.putfield 173, 3) := by decide +kernel
theorem dX5_beach_20 : decode cX5_beach 20 = .ok (.aload_n 0, 1) := by decide +kernel
theorem dX5_beach_21 : decode cX5_beach 21 = .ok (.getfield 158, 3) := by decide +kernel
theorem dX5_beach_24 : decode cX5_beach 24 = .ok (.ifCond .ne 28, 3) := by decide +kernel
theorem dX5_beach_27 : decode cX5_beach 27 = .ok (.aload_n 0, 1) := by decide +kernel
theorem dX5_beach_28 : decode cX5_beach 28 = .ok (.getfield 173, 3) := by decide +kernel
theorem dX5_beach_31 : decode cX5_beach 31 = .ok (.ifCond .eq 14, 3) := by decide +kernel
theorem dX5_beach_34 : decode cX5_beach 34 = .ok (.aload_n 0, 1) := by decide +kernel
theorem dX5_beach_35 : decode cX5_beach 35 = .ok (.getfield 155, 3) := by decide +kernel
theorem dX5_beach_38 : decode cX5_beach 38 = .ok (.aload_n 0, 1) := by decide +kernel
theorem dX5_beach_39 : decode cX5_beach 39 = .ok (.getfield 152, 3) := by decide +kernel
theorem dX5_beach_42 : decode cX5_beach 42 = .ok (.if_icmp .ge 10, 3) := by decide +kernel
theorem dX5_beach_45 : decode cX5_beach 45 = .ok (.aload_n 0, 1) := by decide +kernel
theorem dX5_beach_46 : decode cX5_beach 46 = .ok (.invokevirtual 206, 3) := by decide +kernel
theorem dX5_beach_49 : decode cX5_beach 49 = .ok (.goto (-29), 3) := by decide +kernel
theorem dX5_beach_52 : decode cX5_beach 52 = .ok (.aload_n 0, 1) := by decide +kernel
theorem dX5_beach_53 : decode cX5_beach 53 = .ok (.iconst 0, 1) := by decide +kernel
theorem dX5_beach_54 : decode cX5_beach 54 = .ok (.putfield 152, 3) := by decide +kernel
theorem dX5_beach_57 : decode cX5_beach 57 = .ok (.aload_n 0, 1) := by decide +kernel
theorem dX5_beach_58 : decode cX5_beach 58 = .ok (.getfield 158, 3) := by decide +kernel
theorem dX5_beach_61 : decode cX5_beach 61 = .ok (.ifCond .eq 12, 3) := by decide +kernel
theorem dX5_beach_64 : decode cX5_beach 64 = .ok (.sipush (-1000), 3) := by decide +kernel
theorem dX5_beach_67 : decode cX5_beach 67 = .ok (.aload_n 0, 1) := by decide +kernel
theorem dX5_beach_68 : decode cX5_beach 68 = .ok (.getfield 155, 3) := by decide +kernel
theorem dX5_beach_71 : decode cX5_beach 71 = .ok (.isub, 1) := by decide +kernel
theorem dX5_beach_72 : decode cX5_beach 72 = .ok (.ireturn, 1) := by decide +kernel
theorem dX5_beach_73 : decode cX5_beach 73 = .ok (.aload_n 0, 1) := by decide +kernel
theorem dX5_beach_74 : decode cX5_beach 74 = .ok (.invokevirtual 209, 3) := by decide +kernel
theorem dX5_beach_77 : decode cX5_beach 77 = .ok (.iconst 0, 1) := by decide +kernel
theorem dX5_beach_78 : decode cX5_beach 78 = .ok (.istore_n 1, 1) := by decide +kernel
theorem dX5_beach_79 : decode cX5_beach 79 = .ok (.iload_n 1, 1) := by decide +kernel
theorem dX5_beach_80 : decode cX5_beach 80 = .ok (.aload_n 0, 1) := by decide +kernel
theorem dX5_beach_81 : decode cX5_beach 81 = .ok (.getfield 173, 3) := by decide +kernel
theorem dX5_beach_84 : decode cX5_beach 84 = .ok (.if_icmp .ge 32, 3) := by decide +kernel
theorem dX5_beach_87 : decode cX5_beach 87 = .ok (.aload_n 0, 1) := by decide +kernel
theorem dX5_beach_88 : decode cX5_beach 88 = .ok (.iload_n 1, 1) := by decide +kernel
theorem dX5_beach_89 : decode cX5_beach 89 = .ok (.invokevirtual 212, 3) := by decide +kernel
theorem dX5_beach_92 : decode cX5_beach 92 = .ok (.ifCond .ne 18, 3) := by decide +kernel
theorem dX5_beach_95 : decode cX5_beach 95 = .ok (.aload_n 0, 1) := by decide +kernel
theorem dX5_beach_96 : decode cX5_beach 96 = .ok (.invokevirtual 215, 3) := by decide +kernel
theorem dX5_beach_99 : decode cX5_beach 99 = .ok (.sipush (-2000), 3) := by decide +kernel
theorem dX5_beach_102 : decode cX5_beach 102 = .ok (.aload_n 0, 1) := by decide +kernel
theorem dX5_beach_103 : decode cX5_beach 103 = .ok (.getfield 37, 3) := by decide +kernel
theorem dX5_beach_106 : decode cX5_beach 106 = .ok (.iload_n 1, 1) := by decide +kernel
theorem dX5_beach_107 : decode cX5_beach 107 = .ok (.iaload, 1) := by decide +kernel
theorem dX5_beach_108 : decode cX5_beach 108 = .ok (.isub, 1) := by decide +kernel
theorem dX5_beach_109 : decode cX5_beach 109 = .ok (.ireturn, 1) := by decide +kernel
theorem dX5_beach_110 : decode cX5_beach 110 = .ok (.iinc 1 1, 3) := by decide +kernel
theorem dX5_beach_113 : decode cX5_beach 113 = .ok (.goto (-34), 3) := by decide +kernel
theorem dX5_beach_116 : decode cX5_beach 116 = .ok (.aload_n 0, 1) := by decide +kernel
theorem dX5_beach_117 : decode cX5_beach 117 = .ok (.iconst 0, 1) := by decide +kernel
theorem dX5_beach_118 : decode cX5_beach 118 = .ok (.putfield 218, 3) := by decide +kernel
theorem dX5_beach_121 : decode cX5_beach 121 = .ok (.aload_n 0, 1) := by decide +kernel
theorem dX5_beach_122 : decode cX5_beach 122 = .ok (.getfield 173, 3) := by decide +kernel
theorem dX5_beach_125 : decode cX5_beach 125 = .ok (.ireturn, 1) := by decide +kernel
abbrev A5_beach (G : GG) (Q : Int32 → MM → Prop) := AW G E0 (MZ G (qI Q)) (WY yX5_beach cX5_beach 2 (some .int)) RX5 cX5_beach 2 (some .int) ({ frames := 6, cells := 0, slots := 0, locals := 136 } : Room) 0 0
def D5_beach_c45 (K20 : MM → Prop) (Q : Int32 → MM → Prop) (M : MM) : Prop := D5_readStatement M (fun (M9 : MM) => K20 M9)
def D5_beach_c95 (Q : Int32 → MM → Prop) (x1 : Int32) (M : MM) : Prop := D5_again M (fun (M15 : MM) => ib 72 x1 ∧ Q ((-2000 : Int32) - (M15 72 (ix x1))) M15)
def D5_beach_c79 (Q : Int32 → MM → Prop) : Nat → Int32 → MM → Prop
  | 0, _, _ => False
  | n + 1, x1, M => (((M 62 20) ≤ x1 → (fun M10 : MM => Q (M10 62 20) M10) (up M 62 32 (0 : Int32))) ∧ (¬ (M 62 20) ≤ x1 → D5_comesTold x1 M (fun (r11 : Int32) (M12 : MM) => ((r11 ≠ 0 → (fun v13 : Int32 => D5_beach_c79 Q n v13 M12) (x1 + (1 : Int32))) ∧ (r11 = 0 → D5_beach_c95 Q x1 M12)))))
def D5_beach_c52 (Q : Int32 → MM → Prop) (M : MM) : Prop := (fun M5 : MM => (((M5 62 19) = 0 → D5_think M5 (fun (M7 : MM) => D5_beach_c79 Q FU (0 : Int32) M7)) ∧ (¬ (M5 62 19) = 0 → Q ((-1000 : Int32) - (M5 62 18)) M5))) (up M 62 17 (0 : Int32))
def D5_beach_c20 (Q : Int32 → MM → Prop) : Nat → MM → Prop
  | 0, _ => False
  | n + 1, M => (((M 62 19) ≠ 0 → D5_beach_c52 Q M) ∧ ((M 62 19) = 0 → (((M 62 20) = 0 → D5_beach_c45 (D5_beach_c20 Q n) Q M) ∧ (¬ (M 62 20) = 0 → (((M 62 17) ≤ (M 62 18) → D5_beach_c52 Q M) ∧ (¬ (M 62 17) ≤ (M 62 18) → D5_beach_c45 (D5_beach_c20 Q n) Q M))))))
def D5_beach (M : MM) (Q : Int32 → MM → Prop) : Prop := (fun M1 : MM => (fun M2 : MM => (fun M3 : MM => (fun M4 : MM => D5_beach_c20 Q FU M4) (up M3 62 20 (0 : Int32))) (up M2 62 19 (0 : Int32))) (up M1 62 18 (0 : Int32))) (up M 62 9 (0 : Int32))
set_option maxHeartbeats 4000000 in
set_option maxRecDepth 100000 in
theorem s5_beach_c45 {G : GG} {K20 : MM → Prop} {Q : Int32 → MM → Prop} (hK20 : ∀  (M : MM), K20 M → A5_beach G Q 20 [(0, .ref (gA G 62))] [] M) : ∀  (M : MM), D5_beach_c45 K20 Q M → A5_beach G Q 45 [(0, .ref (gA G 62))] [] M := by
  intro  M h
  unfold D5_beach_c45 at h
  refine a_aload_n dX5_beach_45 0 rfl ?_
  refine a_callVv (n := 0) [] (C := RX5) (ci := 3) (qc := (RX5, TX5, 40)) (fsF := fl3 G _) ob_62.1 (fun _ => en3 ob_62.2) rfl rfl dX5_beach_46 (s5_readStatement h) (gV tbc kM_RX5_206_X5_readStatement kI_X5_readStatement kS_X5_readStatement kN_RX5 kC_X5_readStatement) rfl (by decide +kernel) ⟨Nat.le_of_ble_eq_true rfl, Nat.le_of_ble_eq_true rfl⟩ rfl rfl (Nat.le_of_ble_eq_true rfl) ⟨Nat.le_refl 0, Nat.le_refl 0⟩ (fun M h => ?_)
  refine a_goto (tgt := 20) dX5_beach_49 (by decide) ?_
  refine a_sub [0] rfl ?_
  exact hK20 _ h
set_option maxHeartbeats 4000000 in
set_option maxRecDepth 100000 in
theorem s5_beach_c95 {G : GG} {Q : Int32 → MM → Prop} : ∀ (x1 : Int32) (M : MM), D5_beach_c95 Q x1 M → A5_beach G Q 95 [(0, .ref (gA G 62)), (1, .int x1)] [] M := by
  intro x1 M h
  unfold D5_beach_c95 at h
  refine a_aload_n dX5_beach_95 0 rfl ?_
  refine a_callVv (n := 0) [] (C := RX5) (ci := 3) (qc := (RX5, TX5, 40)) (fsF := fl3 G _) ob_62.1 (fun _ => en3 ob_62.2) rfl rfl dX5_beach_96 (s5_again h) (gV tbc kM_RX5_215_X5_again kI_X5_again kS_X5_again kN_RX5 kC_X5_again) rfl (by decide +kernel) ⟨Nat.le_of_ble_eq_true rfl, Nat.le_of_ble_eq_true rfl⟩ rfl rfl (Nat.le_of_ble_eq_true rfl) ⟨Nat.le_refl 0, Nat.le_refl 0⟩ (fun M h => ?_)
  refine a_sipush (v := -2000) dX5_beach_99 (by decide) ?_
  refine a_aload_n dX5_beach_102 0 rfl ?_
  refine a_get3 dX5_beach_103 21 (by decide) (tbc _ kF_RX5_37) (fun w h => tbc _ (uW3 w h)) rfl ob_62 rfl ?_
  refine a_iload_n dX5_beach_106 1 rfl ?_
  refine a_iald dX5_beach_107 h.1 ?_
  have h := h.2
  refine a_isub dX5_beach_108 ?_
  exact a_iret dX5_beach_109 ⟨_, rfl, h⟩
set_option maxHeartbeats 4000000 in
set_option maxRecDepth 100000 in
theorem s5_beach_c79 {G : GG} {Q : Int32 → MM → Prop} : ∀ (n : Nat) (x1 : Int32) (M : MM), D5_beach_c79 Q n x1 M → A5_beach G Q 79 [(0, .ref (gA G 62)), (1, .int x1)] [] M := by
  intro n
  induction n with
  | zero => intro x1 M h; exact h.elim
  | succ n ih =>
    intro x1 M h
    unfold D5_beach_c79 at h
    refine a_iload_n dX5_beach_79 1 rfl ?_
    refine a_aload_n dX5_beach_80 0 rfl ?_
    refine a_get3 dX5_beach_81 20 (by decide) (tbc _ kF_RX5_173) (fun w h => tbc _ (uW3 w h)) rfl ob_62 rfl ?_
    refine a_icmp_ge (tgt := 116) dX5_beach_84 (by decide) (fun c => ?_) (fun c => ?_)
    · have h := h.1 c
      refine a_aload_n dX5_beach_116 0 rfl ?_
      refine a_iconst (v := 0) dX5_beach_117 (by decide) ?_
      refine a_put3 dX5_beach_118 32 (by decide) (tbc _ kF_RX5_218) (fun w h => tbc _ (uW3 w h)) rfl rfl rfl rfl ob_62 fs3_32 ?_
      refine a_aload_n dX5_beach_121 0 rfl ?_
      refine a_get3 dX5_beach_122 20 (by decide) (tbc _ kF_RX5_173) (fun w h => tbc _ (uW3 w h)) rfl ob_62 rfl ?_
      exact a_iret dX5_beach_125 ⟨_, rfl, h⟩
    · have h := h.2 c
      refine a_aload_n dX5_beach_87 0 rfl ?_
      refine a_iload_n dX5_beach_88 1 rfl ?_
      refine a_callVi (n := 1) [.int _] (C := RX5) (ci := 3) (qc := (RX5, TX5, 40)) (fsF := fl3 G _) ob_62.1 (fun _ => en3 ob_62.2) rfl rfl dX5_beach_89 (s5_comesTold h) (gV tbc kM_RX5_212_X5_comesTold kI_X5_comesTold kS_X5_comesTold kN_RX5 kC_X5_comesTold) rfl (by decide +kernel) ⟨Nat.le_of_ble_eq_true rfl, Nat.le_of_ble_eq_true rfl⟩ rfl rfl (Nat.le_of_ble_eq_true rfl) ⟨Nat.le_refl 0, Nat.le_refl 0⟩ (fun r M h => ?_)
      refine a_if_ne (tgt := 110) dX5_beach_92 (by decide) (fun c => ?_) (fun c => ?_)
      · have h := h.1 c
        refine a_iinc (L' := [(1, .int _), (0, .ref _)]) dX5_beach_110 1 rfl (show _ + Int32.ofInt (1 : Int) = _ + (1 : Int32) from rfl) (by decide) rfl ?_
        refine a_goto (tgt := 79) dX5_beach_113 (by decide) ?_
        refine a_sub [1, 0] rfl ?_
        exact ih _ _ h
      · have h := h.2 c
        refine a_sub [0, 1] rfl ?_
        exact s5_beach_c95 _ _ h
set_option maxHeartbeats 4000000 in
set_option maxRecDepth 100000 in
theorem s5_beach_c52 {G : GG} {Q : Int32 → MM → Prop} : ∀  (M : MM), D5_beach_c52 Q M → A5_beach G Q 52 [(0, .ref (gA G 62))] [] M := by
  intro  M h
  unfold D5_beach_c52 at h
  refine a_aload_n dX5_beach_52 0 rfl ?_
  refine a_iconst (v := 0) dX5_beach_53 (by decide) ?_
  refine a_put3 dX5_beach_54 17 (by decide) (tbc _ kF_RX5_152) (fun w h => tbc _ (uW3 w h)) rfl rfl rfl rfl ob_62 fs3_17 ?_
  refine a_aload_n dX5_beach_57 0 rfl ?_
  refine a_get3 dX5_beach_58 19 (by decide) (tbc _ kF_RX5_158) (fun w h => tbc _ (uW3 w h)) rfl ob_62 rfl ?_
  refine a_if_eq (tgt := 73) dX5_beach_61 (by decide) (fun c => ?_) (fun c => ?_)
  · have h := h.1 c
    refine a_aload_n dX5_beach_73 0 rfl ?_
    refine a_callVv (n := 0) [] (C := RX5) (ci := 3) (qc := (RX5, TX5, 40)) (fsF := fl3 G _) ob_62.1 (fun _ => en3 ob_62.2) rfl rfl dX5_beach_74 (s5_think h) (gV tbc kM_RX5_209_X5_think kI_X5_think kS_X5_think kN_RX5 kC_X5_think) rfl (by decide +kernel) ⟨Nat.le_of_ble_eq_true rfl, Nat.le_of_ble_eq_true rfl⟩ rfl rfl (Nat.le_of_ble_eq_true rfl) ⟨Nat.le_refl 0, Nat.le_refl 0⟩ (fun M h => ?_)
    refine a_iconst (v := 0) dX5_beach_77 (by decide) ?_
    refine a_istore_n (i := 1) (L' := [(1, .int _), (0, .ref _)]) dX5_beach_78 rfl (by decide) rfl ?_
    refine a_sub [1, 0] rfl ?_
    exact s5_beach_c79 _ _ _ h
  · have h := h.2 c
    refine a_sipush (v := -1000) dX5_beach_64 (by decide) ?_
    refine a_aload_n dX5_beach_67 0 rfl ?_
    refine a_get3 dX5_beach_68 18 (by decide) (tbc _ kF_RX5_155) (fun w h => tbc _ (uW3 w h)) rfl ob_62 rfl ?_
    refine a_isub dX5_beach_71 ?_
    exact a_iret dX5_beach_72 ⟨_, rfl, h⟩
set_option maxHeartbeats 4000000 in
set_option maxRecDepth 100000 in
theorem s5_beach_c20 {G : GG} {Q : Int32 → MM → Prop} : ∀ (n : Nat)  (M : MM), D5_beach_c20 Q n M → A5_beach G Q 20 [(0, .ref (gA G 62))] [] M := by
  intro n
  induction n with
  | zero => intro  M h; exact h.elim
  | succ n ih =>
    intro  M h
    unfold D5_beach_c20 at h
    refine a_aload_n dX5_beach_20 0 rfl ?_
    refine a_get3 dX5_beach_21 19 (by decide) (tbc _ kF_RX5_158) (fun w h => tbc _ (uW3 w h)) rfl ob_62 rfl ?_
    refine a_if_ne (tgt := 52) dX5_beach_24 (by decide) (fun c => ?_) (fun c => ?_)
    · have h := h.1 c
      refine a_sub [0] rfl ?_
      exact s5_beach_c52 _ h
    · have h := h.2 c
      refine a_aload_n dX5_beach_27 0 rfl ?_
      refine a_get3 dX5_beach_28 20 (by decide) (tbc _ kF_RX5_173) (fun w h => tbc _ (uW3 w h)) rfl ob_62 rfl ?_
      refine a_if_eq (tgt := 45) dX5_beach_31 (by decide) (fun c => ?_) (fun c => ?_)
      · have h := h.1 c
        refine a_sub [0] rfl ?_
        exact s5_beach_c45 ih _ h
      · have h := h.2 c
        refine a_aload_n dX5_beach_34 0 rfl ?_
        refine a_get3 dX5_beach_35 18 (by decide) (tbc _ kF_RX5_155) (fun w h => tbc _ (uW3 w h)) rfl ob_62 rfl ?_
        refine a_aload_n dX5_beach_38 0 rfl ?_
        refine a_get3 dX5_beach_39 17 (by decide) (tbc _ kF_RX5_152) (fun w h => tbc _ (uW3 w h)) rfl ob_62 rfl ?_
        refine a_icmp_ge (tgt := 52) dX5_beach_42 (by decide) (fun c => ?_) (fun c => ?_)
        · have h := h.1 c
          refine a_sub [0] rfl ?_
          exact s5_beach_c52 _ h
        · have h := h.2 c
          refine a_sub [0] rfl ?_
          exact s5_beach_c45 ih _ h
set_option maxHeartbeats 4000000 in
set_option maxRecDepth 100000 in
theorem s5_beach {G : GG} {M : MM} {Q : Int32 → MM → Prop} (h : D5_beach M Q) : CM G yX5_beach (WY yX5_beach cX5_beach 2 (some .int)) 6 136 [.ref (gA G 62)] M (qI Q) := by
  refine CM.of (cc := cX5_beach) (nL := 2) (ret := (some .int)) (own := RX5) (by decide +kernel) rfl rfl (Nat.le_of_ble_eq_true rfl) ?_
  show A5_beach G Q 0 [(0, .ref (gA G 62))] [] M
  unfold D5_beach at h
  refine a_aload_n dX5_beach_0 0 rfl ?_
  refine a_iconst (v := 0) dX5_beach_1 (by decide) ?_
  refine a_put3 dX5_beach_2 9 (by decide) (tbc _ kF_RX5_73) (fun w h => tbc _ (uW3 w h)) rfl rfl rfl rfl ob_62 fs3_9 ?_
  refine a_aload_n dX5_beach_5 0 rfl ?_
  refine a_iconst (v := 0) dX5_beach_6 (by decide) ?_
  refine a_put3 dX5_beach_7 18 (by decide) (tbc _ kF_RX5_155) (fun w h => tbc _ (uW3 w h)) rfl rfl rfl rfl ob_62 fs3_18 ?_
  refine a_aload_n dX5_beach_10 0 rfl ?_
  refine a_iconst (v := 0) dX5_beach_11 (by decide) ?_
  refine a_put3 dX5_beach_12 19 (by decide) (tbc _ kF_RX5_158) (fun w h => tbc _ (uW3 w h)) rfl rfl rfl rfl ob_62 fs3_19 ?_
  refine a_aload_n dX5_beach_15 0 rfl ?_
  refine a_iconst (v := 0) dX5_beach_16 (by decide) ?_
  refine a_put3 dX5_beach_17 20 (by decide) (tbc _ kF_RX5_173) (fun w h => tbc _ (uW3 w h)) rfl rfl rfl rfl ob_62 fs3_20 ?_
  refine a_sub [0] rfl ?_
  exact s5_beach_c20 _ _ h

/-! X5_best -/
theorem dX5_best_0 : decode cX5_best 0 = .ok (.aload_n 0, 1) := by decide +kernel
theorem dX5_best_1 : decode cX5_best 1 = .ok (.iconst 0, 1) := by decide +kernel
theorem dX5_best_2 : decode cX5_best 2 = .ok (.putfield 73, 3) := by decide +kernel
theorem dX5_best_5 : decode cX5_best 5 = .ok (.iload_n 1, 1) := by decide +kernel
theorem dX5_best_6 : decode cX5_best 6 = .ok (.i2l, 1) := by decide +kernel
theorem dX5_best_7 : decode cX5_best 7 = .ok (.lconst 0, 1) := by decide +kernel
theorem dX5_best_8 : decode cX5_best 8 = .ok (.ldc2_w 242, 3) := by decide +kernel
theorem dX5_best_11 : decode cX5_best 11 = .ok (.invokestatic 80, 3) := by decide +kernel
theorem dX5_best_14 : decode cX5_best 14 = .ok (.ifCond .eq 18, 3) := by decide +kernel
theorem dX5_best_17 : decode cX5_best 17 = .ok (.iload 4, 2) := by decide +kernel
theorem dX5_best_19 : decode cX5_best 19 = .ok (.i2l, 1) := by decide +kernel
theorem dX5_best_20 : decode cX5_best 20 = .ok (.lconst 0, 1) := by decide +kernel
theorem dX5_best_21 : decode cX5_best 21 = .ok (.lconst 1, 1) := by decide +kernel
theorem dX5_best_22 : decode cX5_best 22 = .ok (.invokestatic 80, 3) := by decide +kernel
theorem dX5_best_25 : decode cX5_best 25 = .ok (.ifCond .eq 7, 3) := by decide +kernel
theorem dX5_best_28 : decode cX5_best 28 = .ok (.iconst 0, 1) := by decide +kernel
theorem dX5_best_29 : decode cX5_best 29 = .ok (.goto 5, 3) := by decide +kernel
theorem dX5_best_32 : decode cX5_best 32 = .ok (.bipush (-2), 2) := by decide +kernel
theorem dX5_best_34 : decode cX5_best 34 = .ok (.istore 5, 2) := by decide +kernel
theorem dX5_best_36 : decode cX5_best 36 = .ok (.iload 5, 2) := by decide +kernel
theorem dX5_best_38 : decode cX5_best 38 = .ok (.ifCond .ne 15, 3) := by decide +kernel
theorem dX5_best_41 : decode cX5_best 41 = .ok (.iload_n 2, 1) := by decide +kernel
theorem dX5_best_42 : decode cX5_best 42 = .ok (.ifCond .lt 7, 3) := by decide +kernel
theorem dX5_best_45 : decode cX5_best 45 = .ok (.iload_n 3, 1) := by decide +kernel
theorem dX5_best_46 : decode cX5_best 46 = .ok (.ifCond .ge 7, 3) := by decide +kernel
theorem dX5_best_49 : decode cX5_best 49 = .ok (.bipush (-4), 2) := by decide +kernel
theorem dX5_best_51 : decode cX5_best 51 = .ok (.istore 5, 2) := by decide +kernel
theorem dX5_best_53 : decode cX5_best 53 = .ok (.iload 5, 2) := by decide +kernel
theorem dX5_best_55 : decode cX5_best 55 = .ok (.ifCond .ne 28, 3) := by decide +kernel
theorem dX5_best_58 : decode cX5_best 58 = .ok (.iload_n 2, 1) := by decide +kernel
theorem dX5_best_59 : decode cX5_best 59 = .ok (.bipush 9, 2) := by decide +kernel
theorem dX5_best_61 : decode cX5_best 61 = .ok (.if_icmp .gt 18, 3) := by decide +kernel
theorem dX5_best_64 : decode cX5_best 64 = .ok (.iload_n 3, 1) := by decide +kernel
theorem dX5_best_65 : decode cX5_best 65 = .ok (.bipush 60, 2) := by decide +kernel
theorem dX5_best_67 : decode cX5_best 67 = .ok (.if_icmp .gt 12, 3) := by decide +kernel
theorem dX5_best_70 : decode cX5_best 70 = .ok (.aload_n 0, 1) := by decide +kernel
theorem dX5_best_71 : decode cX5_best 71 = .ok (.getfield 77, 3) := by decide +kernel
theorem dX5_best_74 : decode cX5_best 74 = .ok (.bipush 8, 2) := by decide +kernel
theorem dX5_best_76 : decode cX5_best 76 = .ok (.if_icmp .ne 7, 3) := by decide +kernel
theorem dX5_best_79 : decode cX5_best 79 = .ok (.bipush (-6), 2) := by decide +kernel
theorem dX5_best_81 : decode cX5_best 81 = .ok (.istore 5, 2) := by decide +kernel
theorem dX5_best_83 : decode cX5_best 83 = .ok (.iload 5, 2) := by decide +kernel
theorem dX5_best_85 : decode cX5_best 85 = .ok (.ifCond .ge 10, 3) := by decide +kernel
theorem dX5_best_88 : decode cX5_best 88 = .ok (.aload_n 0, 1) := by decide +kernel
theorem dX5_best_89 : decode cX5_best 89 = .ok (.iload 5, 2) := by decide +kernel
theorem dX5_best_91 : decode cX5_best 91 = .ok (.invokevirtual 149, 3) := by decide +kernel
theorem dX5_best_94 : decode cX5_best 94 = .ok (.ireturn, 1) := by decide +kernel
theorem dX5_best_95 : decode cX5_best 95 = .ok (.bipush (-9), 2) := by decide +kernel
theorem dX5_best_97 : decode cX5_best 97 = .ok (.istore 6, 2) := by decide +kernel
theorem dX5_best_99 : decode cX5_best 99 = .ok (.bipush (-9), 2) := by decide +kernel
theorem dX5_best_101 : decode cX5_best 101 = .ok (.istore 7, 2) := by decide +kernel
theorem dX5_best_103 : decode cX5_best 103 = .ok (.aload_n 0, 1) := by decide +kernel
theorem dX5_best_104 : decode cX5_best 104 = .ok (.invokevirtual 209, 3) := by decide +kernel
theorem dX5_best_107 : decode cX5_best 107 = .ok (.iconst 0, 1) := by decide +kernel
theorem dX5_best_108 : decode cX5_best 108 = .ok (.istore 8, 2) := by decide +kernel
theorem dX5_best_110 : decode cX5_best 110 = .ok (.iload 8, 2) := by decide +kernel
theorem dX5_best_112 : decode cX5_best 112 = .ok (.bipush 25, 2) := by decide +kernel
theorem dX5_best_114 : decode cX5_best 114 = .ok (.if_icmp .ge 73, 3) := by decide +kernel
theorem dX5_best_117 : decode cX5_best 117 = .ok (.aload_n 0, 1) := by decide +kernel
theorem dX5_best_118 : decode cX5_best 118 = .ok (.iload 8, 2) := by decide +kernel
theorem dX5_best_120 : decode cX5_best 120 = .ok (.invokevirtual 188, 3) := by decide +kernel
theorem dX5_best_123 : decode cX5_best 123 = .ok (.ifCond .ge 58, 3) := by decide +kernel
theorem dX5_best_126 : decode cX5_best 126 = .ok (.aload_n 0, 1) := by decide +kernel
theorem dX5_best_127 : decode cX5_best 127 = .ok (.iload_n 1, 1) := by decide +kernel
theorem dX5_best_128 : decode cX5_best 128 = .ok (.iload_n 2, 1) := by decide +kernel
theorem dX5_best_129 : decode cX5_best 129 = .ok (.iload 8, 2) := by decide +kernel
theorem dX5_best_131 : decode cX5_best 131 = .ok (.invokevirtual 191, 3) := by decide +kernel
theorem dX5_best_134 : decode cX5_best 134 = .ok (.aload_n 0, 1) := by decide +kernel
theorem dX5_best_135 : decode cX5_best 135 = .ok (.iload_n 3, 1) := by decide +kernel
theorem dX5_best_136 : decode cX5_best 136 = .ok (.invokevirtual 200, 3) := by decide +kernel
theorem dX5_best_139 : decode cX5_best 139 = .ok (.aload_n 0, 1) := by decide +kernel
theorem dX5_best_140 : decode cX5_best 140 = .ok (.getfield 131, 3) := by decide +kernel
theorem dX5_best_143 : decode cX5_best 143 = .ok (.iload 7, 2) := by decide +kernel
theorem dX5_best_145 : decode cX5_best 145 = .ok (.if_icmp .le 8, 3) := by decide +kernel
theorem dX5_best_148 : decode cX5_best 148 = .ok (.iload 8, 2) := by decide +kernel
theorem dX5_best_150 : decode cX5_best 150 = .ok (.goto 5, 3) := by decide +kernel
theorem dX5_best_153 : decode cX5_best 153 = .ok (.iload 6, 2) := by decide +kernel
theorem dX5_best_155 : decode cX5_best 155 = .ok (.istore 6, 2) := by decide +kernel
theorem dX5_best_157 : decode cX5_best 157 = .ok (.aload_n 0, 1) := by decide +kernel
theorem dX5_best_158 : decode cX5_best 158 = .ok (.getfield 131, 3) := by decide +kernel
theorem dX5_best_161 : decode cX5_best 161 = .ok (.iload 7, 2) := by decide +kernel
theorem dX5_best_163 : decode cX5_best 163 = .ok (.if_icmp .le 10, 3) := by decide +kernel
theorem dX5_best_166 : decode cX5_best 166 = .ok (.aload_n 0, 1) := by decide +kernel
theorem dX5_best_167 : decode cX5_best 167 = .ok (.getfield 131, 3) := by decide +kernel
theorem dX5_best_170 : decode cX5_best 170 = .ok (.goto 5, 3) := by decide +kernel
theorem dX5_best_173 : decode cX5_best 173 = .ok (.iload 7, 2) := by decide +kernel
theorem dX5_best_175 : decode cX5_best 175 = .ok (.istore 7, 2) := by decide +kernel
theorem dX5_best_177 : decode cX5_best 177 = .ok (.aload_n 0, 1) := by decide +kernel
theorem dX5_best_178 : decode cX5_best 178 = .ok (.invokevirtual 215, 3) := by decide +kernel
theorem dX5_best_181 : decode cX5_best 181 = .ok (.iinc 8 1, 3) := by decide +kernel
theorem dX5_best_184 : decode cX5_best 184 = .ok (.goto (-74), 3) := by decide +kernel
theorem dX5_best_187 : decode cX5_best 187 = .ok (.iload 4, 2) := by decide +kernel
theorem dX5_best_189 : decode cX5_best 189 = .ok (.ifCond .ne 8, 3) := by decide +kernel
theorem dX5_best_192 : decode cX5_best 192 = .ok (.iload 6, 2) := by decide +kernel
theorem dX5_best_194 : decode cX5_best 194 = .ok (.goto 5, 3) := by decide +kernel
theorem dX5_best_197 : decode cX5_best 197 = .ok (.iload 7, 2) := by decide +kernel
theorem dX5_best_199 : decode cX5_best 199 = .ok (.ireturn, 1) := by decide +kernel
abbrev A5_best (G : GG) (Q : Int32 → MM → Prop) := AW G E0 (MZ G (qI Q)) (WY yX5_best cX5_best 9 (some .int)) RX5 cX5_best 9 (some .int) ({ frames := 5, cells := 0, slots := 0, locals := 111 } : Room) 0 0
def D5_best_c181 (K110 : Int32 → Int32 → Int32 → Int32 → Int32 → Int32 → Int32 → MM → Prop) (Q : Int32 → MM → Prop) (x1 : Int32) (x2 : Int32) (x3 : Int32) (x4 : Int32) (x6 : Int32) (x7 : Int32) (x8 : Int32) (M : MM) : Prop := (fun v16 : Int32 => K110 x1 x2 x3 x4 x6 x7 v16 M) (x8 + (1 : Int32))
def D5_best_c175 (K110 : Int32 → Int32 → Int32 → Int32 → Int32 → Int32 → Int32 → MM → Prop) (Q : Int32 → MM → Prop) (x1 : Int32) (x2 : Int32) (x3 : Int32) (x4 : Int32) (x6 : Int32) (x8 : Int32) (s0 : Int32) (M : MM) : Prop := D5_again M (fun (M18 : MM) => D5_best_c181 K110 Q x1 x2 x3 x4 x6 s0 x8 M18)
def D5_best_c155 (K110 : Int32 → Int32 → Int32 → Int32 → Int32 → Int32 → Int32 → MM → Prop) (Q : Int32 → MM → Prop) (x1 : Int32) (x2 : Int32) (x3 : Int32) (x4 : Int32) (x7 : Int32) (x8 : Int32) (s0 : Int32) (M : MM) : Prop := (((M 62 6) ≤ x7 → D5_best_c175 K110 Q x1 x2 x3 x4 s0 x8 x7 M) ∧ (¬ (M 62 6) ≤ x7 → D5_best_c175 K110 Q x1 x2 x3 x4 s0 x8 (M 62 6) M))
def D5_best_c187 (Q : Int32 → MM → Prop) (x4 : Int32) (x6 : Int32) (x7 : Int32) (M : MM) : Prop := ((x4 ≠ 0 → Q x7 M) ∧ (x4 = 0 → Q x6 M))
def D5_best_c110 (Q : Int32 → MM → Prop) : Nat → Int32 → Int32 → Int32 → Int32 → Int32 → Int32 → Int32 → MM → Prop
  | 0, _, _, _, _, _, _, _, _ => False
  | n + 1, x1, x2, x3, x4, x6, x7, x8, M => (((25 : Int32) ≤ x8 → D5_best_c187 Q x4 x6 x7 M) ∧ (¬ (25 : Int32) ≤ x8 → D5_workAt x8 M (fun (r10 : Int32) (M11 : MM) => ((0 ≤ r10 → D5_best_c181 (D5_best_c110 Q n) Q x1 x2 x3 x4 x6 x7 x8 M11) ∧ (¬ 0 ≤ r10 → D5_workComes x1 x2 x8 M11 (fun (M13 : MM) => D5_goHours x3 M13 (fun (M15 : MM) => (((M15 62 6) ≤ x7 → D5_best_c155 (D5_best_c110 Q n) Q x1 x2 x3 x4 x7 x8 x6 M15) ∧ (¬ (M15 62 6) ≤ x7 → D5_best_c155 (D5_best_c110 Q n) Q x1 x2 x3 x4 x7 x8 x8 M15)))))))))
def D5_best_c83 (Q : Int32 → MM → Prop) (x1 : Int32) (x2 : Int32) (x3 : Int32) (x4 : Int32) (x5 : Int32) (M : MM) : Prop := ((0 ≤ x5 → D5_think M (fun (M7 : MM) => D5_best_c110 Q FU x1 x2 x3 x4 (-9 : Int32) (-9 : Int32) (0 : Int32) M7)) ∧ (¬ 0 ≤ x5 → D5_refuse x5 M (fun (r8 : Int32) (M9 : MM) => Q r8 M9)))
def D5_best_c79 (Q : Int32 → MM → Prop) (x1 : Int32) (x2 : Int32) (x3 : Int32) (x4 : Int32) (M : MM) : Prop := D5_best_c83 Q x1 x2 x3 x4 (-6 : Int32) M
def D5_best_c53 (Q : Int32 → MM → Prop) (x1 : Int32) (x2 : Int32) (x3 : Int32) (x4 : Int32) (x5 : Int32) (M : MM) : Prop := ((x5 ≠ 0 → D5_best_c83 Q x1 x2 x3 x4 x5 M) ∧ (x5 = 0 → (((9 : Int32) < x2 → D5_best_c79 Q x1 x2 x3 x4 M) ∧ (¬ (9 : Int32) < x2 → (((60 : Int32) < x3 → D5_best_c79 Q x1 x2 x3 x4 M) ∧ (¬ (60 : Int32) < x3 → (((M 62 0) ≠ (8 : Int32) → D5_best_c83 Q x1 x2 x3 x4 x5 M) ∧ ((M 62 0) = (8 : Int32) → D5_best_c79 Q x1 x2 x3 x4 M))))))))
def D5_best_c49 (Q : Int32 → MM → Prop) (x1 : Int32) (x2 : Int32) (x3 : Int32) (x4 : Int32) (M : MM) : Prop := D5_best_c53 Q x1 x2 x3 x4 (-4 : Int32) M
def D5_best_c34 (Q : Int32 → MM → Prop) (x1 : Int32) (x2 : Int32) (x3 : Int32) (x4 : Int32) (s0 : Int32) (M : MM) : Prop := ((s0 ≠ 0 → D5_best_c53 Q x1 x2 x3 x4 s0 M) ∧ (s0 = 0 → ((x2 < 0 → D5_best_c49 Q x1 x2 x3 x4 M) ∧ (¬ x2 < 0 → ((0 ≤ x3 → D5_best_c53 Q x1 x2 x3 x4 s0 M) ∧ (¬ 0 ≤ x3 → D5_best_c49 Q x1 x2 x3 x4 M))))))
def D5_best_c32 (Q : Int32 → MM → Prop) (x1 : Int32) (x2 : Int32) (x3 : Int32) (x4 : Int32) (M : MM) : Prop := D5_best_c34 Q x1 x2 x3 x4 (-2 : Int32) M
def D5_best (x1 : Int32) (x2 : Int32) (x3 : Int32) (x4 : Int32) (M : MM) (Q : Int32 → MM → Prop) : Prop := (fun M1 : MM => D5_in x1.toInt64 (0 : Int64) (5 : Int64) M1 (fun (r2 : Int32) (M3 : MM) => ((r2 = 0 → D5_best_c32 Q x1 x2 x3 x4 M3) ∧ (¬ r2 = 0 → D5_in x4.toInt64 (0 : Int64) (1 : Int64) M3 (fun (r4 : Int32) (M5 : MM) => ((r4 = 0 → D5_best_c32 Q x1 x2 x3 x4 M5) ∧ (¬ r4 = 0 → D5_best_c34 Q x1 x2 x3 x4 (0 : Int32) M5))))))) (up M 62 9 (0 : Int32))
set_option maxHeartbeats 4000000 in
set_option maxRecDepth 100000 in
theorem s5_best_c181 {G : GG} {K110 : Int32 → Int32 → Int32 → Int32 → Int32 → Int32 → Int32 → MM → Prop} {Q : Int32 → MM → Prop} (hK110 : ∀ (x1 : Int32) (x2 : Int32) (x3 : Int32) (x4 : Int32) (x6 : Int32) (x7 : Int32) (x8 : Int32) (M : MM), K110 x1 x2 x3 x4 x6 x7 x8 M → A5_best G Q 110 [(0, .ref (gA G 62)), (1, .int x1), (2, .int x2), (3, .int x3), (4, .int x4), (6, .int x6), (7, .int x7), (8, .int x8)] [] M) : ∀ (x1 : Int32) (x2 : Int32) (x3 : Int32) (x4 : Int32) (x6 : Int32) (x7 : Int32) (x8 : Int32) (M : MM), D5_best_c181 K110 Q x1 x2 x3 x4 x6 x7 x8 M → A5_best G Q 181 [(0, .ref (gA G 62)), (1, .int x1), (2, .int x2), (3, .int x3), (4, .int x4), (6, .int x6), (7, .int x7), (8, .int x8)] [] M := by
  intro x1 x2 x3 x4 x6 x7 x8 M h
  unfold D5_best_c181 at h
  refine a_iinc (L' := [(8, .int _), (0, .ref _), (1, .int _), (2, .int _), (3, .int _), (4, .int _), (6, .int _), (7, .int _)]) dX5_best_181 7 rfl (show _ + Int32.ofInt (1 : Int) = _ + (1 : Int32) from rfl) (by decide) rfl ?_
  refine a_goto (tgt := 110) dX5_best_184 (by decide) ?_
  refine a_sub [1, 2, 3, 4, 5, 6, 7, 0] rfl ?_
  exact hK110 _ _ _ _ _ _ _ _ h
set_option maxHeartbeats 4000000 in
set_option maxRecDepth 100000 in
theorem s5_best_c175 {G : GG} {K110 : Int32 → Int32 → Int32 → Int32 → Int32 → Int32 → Int32 → MM → Prop} {Q : Int32 → MM → Prop} (hK110 : ∀ (x1 : Int32) (x2 : Int32) (x3 : Int32) (x4 : Int32) (x6 : Int32) (x7 : Int32) (x8 : Int32) (M : MM), K110 x1 x2 x3 x4 x6 x7 x8 M → A5_best G Q 110 [(0, .ref (gA G 62)), (1, .int x1), (2, .int x2), (3, .int x3), (4, .int x4), (6, .int x6), (7, .int x7), (8, .int x8)] [] M) : ∀ (x1 : Int32) (x2 : Int32) (x3 : Int32) (x4 : Int32) (x6 : Int32) (x8 : Int32) (s0 : Int32) (M : MM), D5_best_c175 K110 Q x1 x2 x3 x4 x6 x8 s0 M → A5_best G Q 175 [(0, .ref (gA G 62)), (1, .int x1), (2, .int x2), (3, .int x3), (4, .int x4), (6, .int x6), (8, .int x8)] [.int s0] M := by
  intro x1 x2 x3 x4 x6 x8 s0 M h
  unfold D5_best_c175 at h
  refine a_istore (i := 7) (L' := [(7, .int _), (0, .ref _), (1, .int _), (2, .int _), (3, .int _), (4, .int _), (6, .int _), (8, .int _)]) dX5_best_175 (by decide) rfl ?_
  refine a_aload_n dX5_best_177 1 rfl ?_
  refine a_callVv (n := 0) [] (C := RX5) (ci := 3) (qc := (RX5, TX5, 40)) (fsF := fl3 G _) ob_62.1 (fun _ => en3 ob_62.2) rfl rfl dX5_best_178 (s5_again h) (gV tbc kM_RX5_215_X5_again kI_X5_again kS_X5_again kN_RX5 kC_X5_again) rfl (by decide +kernel) ⟨Nat.le_of_ble_eq_true rfl, Nat.le_of_ble_eq_true rfl⟩ rfl rfl (Nat.le_of_ble_eq_true rfl) ⟨Nat.le_refl 0, Nat.le_refl 0⟩ (fun M h => ?_)
  refine a_sub [1, 2, 3, 4, 5, 6, 0, 7] rfl ?_
  exact s5_best_c181 hK110 _ _ _ _ _ _ _ _ h
set_option maxHeartbeats 4000000 in
set_option maxRecDepth 100000 in
theorem s5_best_c155 {G : GG} {K110 : Int32 → Int32 → Int32 → Int32 → Int32 → Int32 → Int32 → MM → Prop} {Q : Int32 → MM → Prop} (hK110 : ∀ (x1 : Int32) (x2 : Int32) (x3 : Int32) (x4 : Int32) (x6 : Int32) (x7 : Int32) (x8 : Int32) (M : MM), K110 x1 x2 x3 x4 x6 x7 x8 M → A5_best G Q 110 [(0, .ref (gA G 62)), (1, .int x1), (2, .int x2), (3, .int x3), (4, .int x4), (6, .int x6), (7, .int x7), (8, .int x8)] [] M) : ∀ (x1 : Int32) (x2 : Int32) (x3 : Int32) (x4 : Int32) (x7 : Int32) (x8 : Int32) (s0 : Int32) (M : MM), D5_best_c155 K110 Q x1 x2 x3 x4 x7 x8 s0 M → A5_best G Q 155 [(0, .ref (gA G 62)), (1, .int x1), (2, .int x2), (3, .int x3), (4, .int x4), (7, .int x7), (8, .int x8)] [.int s0] M := by
  intro x1 x2 x3 x4 x7 x8 s0 M h
  unfold D5_best_c155 at h
  refine a_istore (i := 6) (L' := [(6, .int _), (0, .ref _), (1, .int _), (2, .int _), (3, .int _), (4, .int _), (7, .int _), (8, .int _)]) dX5_best_155 (by decide) rfl ?_
  refine a_aload_n dX5_best_157 1 rfl ?_
  refine a_get3 dX5_best_158 6 (by decide) (tbc _ kF_RX5_131) (fun w h => tbc _ (uW3 w h)) rfl ob_62 rfl ?_
  refine a_iload dX5_best_161 6 rfl ?_
  refine a_icmp_le (tgt := 173) dX5_best_163 (by decide) (fun c => ?_) (fun c => ?_)
  · have h := h.1 c
    refine a_iload dX5_best_173 6 rfl ?_
    refine a_sub [1, 2, 3, 4, 5, 0, 7] rfl ?_
    exact s5_best_c175 hK110 _ _ _ _ _ _ _ _ h
  · have h := h.2 c
    refine a_aload_n dX5_best_166 1 rfl ?_
    refine a_get3 dX5_best_167 6 (by decide) (tbc _ kF_RX5_131) (fun w h => tbc _ (uW3 w h)) rfl ob_62 rfl ?_
    refine a_goto (tgt := 175) dX5_best_170 (by decide) ?_
    refine a_sub [1, 2, 3, 4, 5, 0, 7] rfl ?_
    exact s5_best_c175 hK110 _ _ _ _ _ _ _ _ h
set_option maxHeartbeats 4000000 in
set_option maxRecDepth 100000 in
theorem s5_best_c187 {G : GG} {Q : Int32 → MM → Prop} : ∀ (x4 : Int32) (x6 : Int32) (x7 : Int32) (M : MM), D5_best_c187 Q x4 x6 x7 M → A5_best G Q 187 [(4, .int x4), (6, .int x6), (7, .int x7)] [] M := by
  intro x4 x6 x7 M h
  unfold D5_best_c187 at h
  refine a_iload dX5_best_187 0 rfl ?_
  refine a_if_ne (tgt := 197) dX5_best_189 (by decide) (fun c => ?_) (fun c => ?_)
  · have h := h.1 c
    refine a_iload dX5_best_197 2 rfl ?_
    exact a_iret dX5_best_199 ⟨_, rfl, h⟩
  · have h := h.2 c
    refine a_iload dX5_best_192 1 rfl ?_
    refine a_goto (tgt := 199) dX5_best_194 (by decide) ?_
    exact a_iret dX5_best_199 ⟨_, rfl, h⟩
set_option maxHeartbeats 4000000 in
set_option maxRecDepth 100000 in
theorem s5_best_c110 {G : GG} {Q : Int32 → MM → Prop} : ∀ (n : Nat) (x1 : Int32) (x2 : Int32) (x3 : Int32) (x4 : Int32) (x6 : Int32) (x7 : Int32) (x8 : Int32) (M : MM), D5_best_c110 Q n x1 x2 x3 x4 x6 x7 x8 M → A5_best G Q 110 [(0, .ref (gA G 62)), (1, .int x1), (2, .int x2), (3, .int x3), (4, .int x4), (6, .int x6), (7, .int x7), (8, .int x8)] [] M := by
  intro n
  induction n with
  | zero => intro x1 x2 x3 x4 x6 x7 x8 M h; exact h.elim
  | succ n ih =>
    intro x1 x2 x3 x4 x6 x7 x8 M h
    unfold D5_best_c110 at h
    refine a_iload dX5_best_110 7 rfl ?_
    refine a_bipush (v := 25) dX5_best_112 (by decide) ?_
    refine a_icmp_ge (tgt := 187) dX5_best_114 (by decide) (fun c => ?_) (fun c => ?_)
    · have h := h.1 c
      refine a_sub [4, 5, 6] rfl ?_
      exact s5_best_c187 _ _ _ _ h
    · have h := h.2 c
      refine a_aload_n dX5_best_117 0 rfl ?_
      refine a_iload dX5_best_118 7 rfl ?_
      refine a_callVi (n := 1) [.int _] (C := RX5) (ci := 3) (qc := (RX5, TX5, 40)) (fsF := fl3 G _) ob_62.1 (fun _ => en3 ob_62.2) rfl rfl dX5_best_120 (s5_workAt h) (gV tbc kM_RX5_188_X5_workAt kI_X5_workAt kS_X5_workAt kN_RX5 kC_X5_workAt) rfl (by decide +kernel) ⟨Nat.le_of_ble_eq_true rfl, Nat.le_of_ble_eq_true rfl⟩ rfl rfl (Nat.le_of_ble_eq_true rfl) ⟨Nat.le_refl 0, Nat.le_refl 0⟩ (fun r M h => ?_)
      refine a_if_ge (tgt := 181) dX5_best_123 (by decide) (fun c => ?_) (fun c => ?_)
      · have h := h.1 c
        refine a_sub [0, 1, 2, 3, 4, 5, 6, 7] rfl ?_
        exact s5_best_c181 ih _ _ _ _ _ _ _ _ h
      · have h := h.2 c
        refine a_aload_n dX5_best_126 0 rfl ?_
        refine a_iload_n dX5_best_127 1 rfl ?_
        refine a_iload_n dX5_best_128 2 rfl ?_
        refine a_iload dX5_best_129 7 rfl ?_
        refine a_callVv (n := 3) [.int _, .int _, .int _] (C := RX5) (ci := 3) (qc := (RX5, TX5, 40)) (fsF := fl3 G _) ob_62.1 (fun _ => en3 ob_62.2) rfl rfl dX5_best_131 (s5_workComes h) (gV tbc kM_RX5_191_X5_workComes kI_X5_workComes kS_X5_workComes kN_RX5 kC_X5_workComes) rfl (by decide +kernel) ⟨Nat.le_of_ble_eq_true rfl, Nat.le_of_ble_eq_true rfl⟩ rfl rfl (Nat.le_of_ble_eq_true rfl) ⟨Nat.le_refl 0, Nat.le_refl 0⟩ (fun M h => ?_)
        refine a_aload_n dX5_best_134 0 rfl ?_
        refine a_iload_n dX5_best_135 3 rfl ?_
        refine a_callVv (n := 1) [.int _] (C := RX5) (ci := 3) (qc := (RX5, TX5, 40)) (fsF := fl3 G _) ob_62.1 (fun _ => en3 ob_62.2) rfl rfl dX5_best_136 (s5_goHours h) (gV tbc kM_RX5_200_X5_goHours kI_X5_goHours kS_X5_goHours kN_RX5 kC_X5_goHours) rfl (by decide +kernel) ⟨Nat.le_of_ble_eq_true rfl, Nat.le_of_ble_eq_true rfl⟩ rfl rfl (Nat.le_of_ble_eq_true rfl) ⟨Nat.le_refl 0, Nat.le_refl 0⟩ (fun M h => ?_)
        refine a_aload_n dX5_best_139 0 rfl ?_
        refine a_get3 dX5_best_140 6 (by decide) (tbc _ kF_RX5_131) (fun w h => tbc _ (uW3 w h)) rfl ob_62 rfl ?_
        refine a_iload dX5_best_143 6 rfl ?_
        refine a_icmp_le (tgt := 153) dX5_best_145 (by decide) (fun c => ?_) (fun c => ?_)
        · have h := h.1 c
          refine a_iload dX5_best_153 5 rfl ?_
          refine a_sub [0, 1, 2, 3, 4, 6, 7] rfl ?_
          exact s5_best_c155 ih _ _ _ _ _ _ _ _ h
        · have h := h.2 c
          refine a_iload dX5_best_148 7 rfl ?_
          refine a_goto (tgt := 155) dX5_best_150 (by decide) ?_
          refine a_sub [0, 1, 2, 3, 4, 6, 7] rfl ?_
          exact s5_best_c155 ih _ _ _ _ _ _ _ _ h
set_option maxHeartbeats 4000000 in
set_option maxRecDepth 100000 in
theorem s5_best_c83 {G : GG} {Q : Int32 → MM → Prop} : ∀ (x1 : Int32) (x2 : Int32) (x3 : Int32) (x4 : Int32) (x5 : Int32) (M : MM), D5_best_c83 Q x1 x2 x3 x4 x5 M → A5_best G Q 83 [(0, .ref (gA G 62)), (1, .int x1), (2, .int x2), (3, .int x3), (4, .int x4), (5, .int x5)] [] M := by
  intro x1 x2 x3 x4 x5 M h
  unfold D5_best_c83 at h
  refine a_iload dX5_best_83 5 rfl ?_
  refine a_if_ge (tgt := 95) dX5_best_85 (by decide) (fun c => ?_) (fun c => ?_)
  · have h := h.1 c
    refine a_bipush (v := -9) dX5_best_95 (by decide) ?_
    refine a_istore (i := 6) (L' := [(6, .int _), (0, .ref _), (1, .int _), (2, .int _), (3, .int _), (4, .int _), (5, .int _)]) dX5_best_97 (by decide) rfl ?_
    refine a_bipush (v := -9) dX5_best_99 (by decide) ?_
    refine a_istore (i := 7) (L' := [(7, .int _), (6, .int _), (0, .ref _), (1, .int _), (2, .int _), (3, .int _), (4, .int _), (5, .int _)]) dX5_best_101 (by decide) rfl ?_
    refine a_aload_n dX5_best_103 2 rfl ?_
    refine a_callVv (n := 0) [] (C := RX5) (ci := 3) (qc := (RX5, TX5, 40)) (fsF := fl3 G _) ob_62.1 (fun _ => en3 ob_62.2) rfl rfl dX5_best_104 (s5_think h) (gV tbc kM_RX5_209_X5_think kI_X5_think kS_X5_think kN_RX5 kC_X5_think) rfl (by decide +kernel) ⟨Nat.le_of_ble_eq_true rfl, Nat.le_of_ble_eq_true rfl⟩ rfl rfl (Nat.le_of_ble_eq_true rfl) ⟨Nat.le_refl 0, Nat.le_refl 0⟩ (fun M h => ?_)
    refine a_iconst (v := 0) dX5_best_107 (by decide) ?_
    refine a_istore (i := 8) (L' := [(8, .int _), (7, .int _), (6, .int _), (0, .ref _), (1, .int _), (2, .int _), (3, .int _), (4, .int _), (5, .int _)]) dX5_best_108 (by decide) rfl ?_
    refine a_sub [3, 4, 5, 6, 7, 2, 1, 0] rfl ?_
    exact s5_best_c110 _ _ _ _ _ _ _ _ _ h
  · have h := h.2 c
    refine a_aload_n dX5_best_88 0 rfl ?_
    refine a_iload dX5_best_89 5 rfl ?_
    refine a_callVi (n := 1) [.int _] (C := RX5) (ci := 3) (qc := (RX5, TX5, 40)) (fsF := fl3 G _) ob_62.1 (fun _ => en3 ob_62.2) rfl rfl dX5_best_91 (s5_refuse h) (gV tbc kM_RX5_149_X5_refuse kI_X5_refuse kS_X5_refuse kN_RX5 kC_X5_refuse) rfl (by decide +kernel) ⟨Nat.le_of_ble_eq_true rfl, Nat.le_of_ble_eq_true rfl⟩ rfl rfl (Nat.le_of_ble_eq_true rfl) ⟨Nat.le_refl 0, Nat.le_refl 0⟩ (fun r M h => ?_)
    exact a_iret dX5_best_94 ⟨_, rfl, h⟩
set_option maxHeartbeats 4000000 in
set_option maxRecDepth 100000 in
theorem s5_best_c79 {G : GG} {Q : Int32 → MM → Prop} : ∀ (x1 : Int32) (x2 : Int32) (x3 : Int32) (x4 : Int32) (M : MM), D5_best_c79 Q x1 x2 x3 x4 M → A5_best G Q 79 [(0, .ref (gA G 62)), (1, .int x1), (2, .int x2), (3, .int x3), (4, .int x4)] [] M := by
  intro x1 x2 x3 x4 M h
  unfold D5_best_c79 at h
  refine a_bipush (v := -6) dX5_best_79 (by decide) ?_
  refine a_istore (i := 5) (L' := [(5, .int _), (0, .ref _), (1, .int _), (2, .int _), (3, .int _), (4, .int _)]) dX5_best_81 (by decide) rfl ?_
  refine a_sub [1, 2, 3, 4, 5, 0] rfl ?_
  exact s5_best_c83 _ _ _ _ _ _ h
set_option maxHeartbeats 4000000 in
set_option maxRecDepth 100000 in
theorem s5_best_c53 {G : GG} {Q : Int32 → MM → Prop} : ∀ (x1 : Int32) (x2 : Int32) (x3 : Int32) (x4 : Int32) (x5 : Int32) (M : MM), D5_best_c53 Q x1 x2 x3 x4 x5 M → A5_best G Q 53 [(0, .ref (gA G 62)), (1, .int x1), (2, .int x2), (3, .int x3), (4, .int x4), (5, .int x5)] [] M := by
  intro x1 x2 x3 x4 x5 M h
  unfold D5_best_c53 at h
  refine a_iload dX5_best_53 5 rfl ?_
  refine a_if_ne (tgt := 83) dX5_best_55 (by decide) (fun c => ?_) (fun c => ?_)
  · have h := h.1 c
    refine a_sub [0, 1, 2, 3, 4, 5] rfl ?_
    exact s5_best_c83 _ _ _ _ _ _ h
  · have h := h.2 c
    refine a_iload_n dX5_best_58 2 rfl ?_
    refine a_bipush (v := 9) dX5_best_59 (by decide) ?_
    refine a_icmp_gt (tgt := 79) dX5_best_61 (by decide) (fun c => ?_) (fun c => ?_)
    · have h := h.1 c
      refine a_sub [0, 1, 2, 3, 4] rfl ?_
      exact s5_best_c79 _ _ _ _ _ h
    · have h := h.2 c
      refine a_iload_n dX5_best_64 3 rfl ?_
      refine a_bipush (v := 60) dX5_best_65 (by decide) ?_
      refine a_icmp_gt (tgt := 79) dX5_best_67 (by decide) (fun c => ?_) (fun c => ?_)
      · have h := h.1 c
        refine a_sub [0, 1, 2, 3, 4] rfl ?_
        exact s5_best_c79 _ _ _ _ _ h
      · have h := h.2 c
        refine a_aload_n dX5_best_70 0 rfl ?_
        refine a_get3 dX5_best_71 0 (by decide) (tbc _ kF_RX5_77) (fun w h => tbc _ (uW3 w h)) rfl ob_62 rfl ?_
        refine a_bipush (v := 8) dX5_best_74 (by decide) ?_
        refine a_icmp_ne (tgt := 83) dX5_best_76 (by decide) (fun c => ?_) (fun c => ?_)
        · have h := h.1 c
          refine a_sub [0, 1, 2, 3, 4, 5] rfl ?_
          exact s5_best_c83 _ _ _ _ _ _ h
        · have h := h.2 c
          refine a_sub [0, 1, 2, 3, 4] rfl ?_
          exact s5_best_c79 _ _ _ _ _ h
set_option maxHeartbeats 4000000 in
set_option maxRecDepth 100000 in
theorem s5_best_c49 {G : GG} {Q : Int32 → MM → Prop} : ∀ (x1 : Int32) (x2 : Int32) (x3 : Int32) (x4 : Int32) (M : MM), D5_best_c49 Q x1 x2 x3 x4 M → A5_best G Q 49 [(0, .ref (gA G 62)), (1, .int x1), (2, .int x2), (3, .int x3), (4, .int x4)] [] M := by
  intro x1 x2 x3 x4 M h
  unfold D5_best_c49 at h
  refine a_bipush (v := -4) dX5_best_49 (by decide) ?_
  refine a_istore (i := 5) (L' := [(5, .int _), (0, .ref _), (1, .int _), (2, .int _), (3, .int _), (4, .int _)]) dX5_best_51 (by decide) rfl ?_
  refine a_sub [1, 2, 3, 4, 5, 0] rfl ?_
  exact s5_best_c53 _ _ _ _ _ _ h
set_option maxHeartbeats 4000000 in
set_option maxRecDepth 100000 in
theorem s5_best_c34 {G : GG} {Q : Int32 → MM → Prop} : ∀ (x1 : Int32) (x2 : Int32) (x3 : Int32) (x4 : Int32) (s0 : Int32) (M : MM), D5_best_c34 Q x1 x2 x3 x4 s0 M → A5_best G Q 34 [(0, .ref (gA G 62)), (1, .int x1), (2, .int x2), (3, .int x3), (4, .int x4)] [.int s0] M := by
  intro x1 x2 x3 x4 s0 M h
  unfold D5_best_c34 at h
  refine a_istore (i := 5) (L' := [(5, .int _), (0, .ref _), (1, .int _), (2, .int _), (3, .int _), (4, .int _)]) dX5_best_34 (by decide) rfl ?_
  refine a_iload dX5_best_36 0 rfl ?_
  refine a_if_ne (tgt := 53) dX5_best_38 (by decide) (fun c => ?_) (fun c => ?_)
  · have h := h.1 c
    refine a_sub [1, 2, 3, 4, 5, 0] rfl ?_
    exact s5_best_c53 _ _ _ _ _ _ h
  · have h := h.2 c
    refine a_iload_n dX5_best_41 3 rfl ?_
    refine a_if_lt (tgt := 49) dX5_best_42 (by decide) (fun c => ?_) (fun c => ?_)
    · have h := h.1 c
      refine a_sub [1, 2, 3, 4, 5] rfl ?_
      exact s5_best_c49 _ _ _ _ _ h
    · have h := h.2 c
      refine a_iload_n dX5_best_45 4 rfl ?_
      refine a_if_ge (tgt := 53) dX5_best_46 (by decide) (fun c => ?_) (fun c => ?_)
      · have h := h.1 c
        refine a_sub [1, 2, 3, 4, 5, 0] rfl ?_
        exact s5_best_c53 _ _ _ _ _ _ h
      · have h := h.2 c
        refine a_sub [1, 2, 3, 4, 5] rfl ?_
        exact s5_best_c49 _ _ _ _ _ h
set_option maxHeartbeats 4000000 in
set_option maxRecDepth 100000 in
theorem s5_best_c32 {G : GG} {Q : Int32 → MM → Prop} : ∀ (x1 : Int32) (x2 : Int32) (x3 : Int32) (x4 : Int32) (M : MM), D5_best_c32 Q x1 x2 x3 x4 M → A5_best G Q 32 [(0, .ref (gA G 62)), (1, .int x1), (2, .int x2), (3, .int x3), (4, .int x4)] [] M := by
  intro x1 x2 x3 x4 M h
  unfold D5_best_c32 at h
  refine a_bipush (v := -2) dX5_best_32 (by decide) ?_
  refine a_sub [0, 1, 2, 3, 4] rfl ?_
  exact s5_best_c34 _ _ _ _ _ _ h
set_option maxHeartbeats 4000000 in
set_option maxRecDepth 100000 in
theorem s5_best {G : GG} {x1 : Int32} {x2 : Int32} {x3 : Int32} {x4 : Int32} {M : MM} {Q : Int32 → MM → Prop} (h : D5_best x1 x2 x3 x4 M Q) : CM G yX5_best (WY yX5_best cX5_best 9 (some .int)) 5 111 [.ref (gA G 62), .int x1, .int x2, .int x3, .int x4] M (qI Q) := by
  refine CM.of (cc := cX5_best) (nL := 9) (ret := (some .int)) (own := RX5) (by decide +kernel) rfl rfl (Nat.le_of_ble_eq_true rfl) ?_
  show A5_best G Q 0 [(0, .ref (gA G 62)), (1, .int x1), (2, .int x2), (3, .int x3), (4, .int x4)] [] M
  unfold D5_best at h
  refine a_aload_n dX5_best_0 0 rfl ?_
  refine a_iconst (v := 0) dX5_best_1 (by decide) ?_
  refine a_put3 dX5_best_2 9 (by decide) (tbc _ kF_RX5_73) (fun w h => tbc _ (uW3 w h)) rfl rfl rfl rfl ob_62 fs3_9 ?_
  refine a_iload_n dX5_best_5 1 rfl ?_
  refine a_i2l dX5_best_6 ?_
  refine a_lconst (v := 0) dX5_best_7 (by decide) ?_
  refine a_ldc2 dX5_best_8 (tbc _ kL_RX5_242) ?_
  refine a_callSi (n := 3) [.long _, .long _, .long _] dX5_best_11 (s5_in h) (gS tbc kM_RX5_80_X5_in kT_X5_in kN_RX5 kC_X5_in) rfl (by decide +kernel) ⟨Nat.le_of_ble_eq_true rfl, Nat.le_of_ble_eq_true rfl⟩ rfl rfl (Nat.le_of_ble_eq_true rfl) ⟨Nat.le_refl 0, Nat.le_refl 0⟩ (fun r M h => ?_)
  refine a_if_eq (tgt := 32) dX5_best_14 (by decide) (fun c => ?_) (fun c => ?_)
  · have h := h.1 c
    refine a_sub [0, 1, 2, 3, 4] rfl ?_
    exact s5_best_c32 _ _ _ _ _ h
  · have h := h.2 c
    refine a_iload dX5_best_17 4 rfl ?_
    refine a_i2l dX5_best_19 ?_
    refine a_lconst (v := 0) dX5_best_20 (by decide) ?_
    refine a_lconst (v := 1) dX5_best_21 (by decide) ?_
    refine a_callSi (n := 3) [.long _, .long _, .long _] dX5_best_22 (s5_in h) (gS tbc kM_RX5_80_X5_in kT_X5_in kN_RX5 kC_X5_in) rfl (by decide +kernel) ⟨Nat.le_of_ble_eq_true rfl, Nat.le_of_ble_eq_true rfl⟩ rfl rfl (Nat.le_of_ble_eq_true rfl) ⟨Nat.le_refl 0, Nat.le_refl 0⟩ (fun r M h => ?_)
    refine a_if_eq (tgt := 32) dX5_best_25 (by decide) (fun c => ?_) (fun c => ?_)
    · have h := h.1 c
      refine a_sub [0, 1, 2, 3, 4] rfl ?_
      exact s5_best_c32 _ _ _ _ _ h
    · have h := h.2 c
      refine a_iconst (v := 0) dX5_best_28 (by decide) ?_
      refine a_goto (tgt := 34) dX5_best_29 (by decide) ?_
      refine a_sub [0, 1, 2, 3, 4] rfl ?_
      exact s5_best_c34 _ _ _ _ _ _ h

/-! X5_cellOf -/
theorem dX5_cellOf_0 : decode cX5_cellOf 0 = .ok (.iload_n 1, 1) := by decide +kernel
theorem dX5_cellOf_1 : decode cX5_cellOf 1 = .ok (.bipush 8, 2) := by decide +kernel
theorem dX5_cellOf_3 : decode cX5_cellOf 3 = .ok (.if_icmp .ne 7, 3) := by decide +kernel
theorem dX5_cellOf_6 : decode cX5_cellOf 6 = .ok (.iconst 0, 1) := by decide +kernel
theorem dX5_cellOf_7 : decode cX5_cellOf 7 = .ok (.goto 9, 3) := by decide +kernel
theorem dX5_cellOf_10 : decode cX5_cellOf 10 = .ok (.aload_n 0, 1) := by decide +kernel
theorem dX5_cellOf_11 : decode cX5_cellOf 11 = .ok (.getfield 16, 3) := by decide +kernel
theorem dX5_cellOf_14 : decode cX5_cellOf 14 = .ok (.iload_n 1, 1) := by decide +kernel
theorem dX5_cellOf_15 : decode cX5_cellOf 15 = .ok (.iaload, 1) := by decide +kernel
theorem dX5_cellOf_16 : decode cX5_cellOf 16 = .ok (.ireturn, 1) := by decide +kernel
abbrev A5_cellOf (G : GG) (Q : Int32 → MM → Prop) := AW G E0 (MZ G (qI Q)) (WY yX5_cellOf cX5_cellOf 2 (some .int)) RX5 cX5_cellOf 2 (some .int) ({ frames := 0, cells := 0, slots := 0, locals := 0 } : Room) 0 0
def D5_cellOf (x1 : Int32) (M : MM) (Q : Int32 → MM → Prop) : Prop := ((x1 ≠ (8 : Int32) → ib 65 x1 ∧ Q (M 65 (ix x1)) M) ∧ (x1 = (8 : Int32) → Q (0 : Int32) M))
set_option maxHeartbeats 4000000 in
set_option maxRecDepth 100000 in
theorem s5_cellOf {G : GG} {x1 : Int32} {M : MM} {Q : Int32 → MM → Prop} (h : D5_cellOf x1 M Q) : CM G yX5_cellOf (WY yX5_cellOf cX5_cellOf 2 (some .int)) 0 0 [.ref (gA G 62), .int x1] M (qI Q) := by
  refine CM.of (cc := cX5_cellOf) (nL := 2) (ret := (some .int)) (own := RX5) (by decide +kernel) rfl rfl (Nat.le_of_ble_eq_true rfl) ?_
  show A5_cellOf G Q 0 [(0, .ref (gA G 62)), (1, .int x1)] [] M
  unfold D5_cellOf at h
  refine a_iload_n dX5_cellOf_0 1 rfl ?_
  refine a_bipush (v := 8) dX5_cellOf_1 (by decide) ?_
  refine a_icmp_ne (tgt := 10) dX5_cellOf_3 (by decide) (fun c => ?_) (fun c => ?_)
  · have h := h.1 c
    refine a_aload_n dX5_cellOf_10 0 rfl ?_
    refine a_get3 dX5_cellOf_11 3 (by decide) (tbc _ kF_RX5_16) (fun w h => tbc _ (uW3 w h)) rfl ob_62 rfl ?_
    refine a_iload_n dX5_cellOf_14 1 rfl ?_
    refine a_iald dX5_cellOf_15 h.1 ?_
    have h := h.2
    exact a_iret dX5_cellOf_16 ⟨_, rfl, h⟩
  · have h := h.2 c
    refine a_iconst (v := 0) dX5_cellOf_6 (by decide) ?_
    refine a_goto (tgt := 16) dX5_cellOf_7 (by decide) ?_
    exact a_iret dX5_cellOf_16 ⟨_, rfl, h⟩

/-! X5_clear -/
theorem dX5_clear_0 : decode cX5_clear 0 = .ok (.aload_n 0, 1) := by decide +kernel
theorem dX5_clear_1 : decode cX5_clear 1 = .ok (.iconst 0, 1) := by decide +kernel
theorem dX5_clear_2 : decode cX5_clear 2 = .ok (.putfield 73, 3) := by decide +kernel
theorem dX5_clear_5 : decode cX5_clear 5 = .ok (.aload_n 0, 1) := by decide +kernel
theorem dX5_clear_6 : decode cX5_clear 6 = .ok (.getfield 301, 3) := by decide +kernel
theorem dX5_clear_9 : decode cX5_clear 9 = .ok (.istore_n 1, 1) := by decide +kernel
theorem dX5_clear_10 : decode cX5_clear 10 = .ok (.aload_n 0, 1) := by decide +kernel
theorem dX5_clear_11 : decode cX5_clear 11 = .ok (.iconst 0, 1) := by decide +kernel
theorem dX5_clear_12 : decode cX5_clear 12 = .ok (.putfield 301, 3) := by decide +kernel
theorem dX5_clear_15 : decode cX5_clear 15 = .ok (.iload_n 1, 1) := by decide +kernel
theorem dX5_clear_16 : decode cX5_clear 16 = .ok (.ireturn, 1) := by decide +kernel
abbrev A5_clear (G : GG) (Q : Int32 → MM → Prop) := AW G E0 (MZ G (qI Q)) (WY yX5_clear cX5_clear 2 (some .int)) RX5 cX5_clear 2 (some .int) ({ frames := 0, cells := 0, slots := 0, locals := 0 } : Room) 0 0
def D5_clear (M : MM) (Q : Int32 → MM → Prop) : Prop := (fun M1 : MM => (fun v2 : Int32 => (fun M3 : MM => Q v2 M3) (up M1 62 36 (0 : Int32))) (M1 62 36)) (up M 62 9 (0 : Int32))
set_option maxHeartbeats 4000000 in
set_option maxRecDepth 100000 in
theorem s5_clear {G : GG} {M : MM} {Q : Int32 → MM → Prop} (h : D5_clear M Q) : CM G yX5_clear (WY yX5_clear cX5_clear 2 (some .int)) 0 0 [.ref (gA G 62)] M (qI Q) := by
  refine CM.of (cc := cX5_clear) (nL := 2) (ret := (some .int)) (own := RX5) (by decide +kernel) rfl rfl (Nat.le_of_ble_eq_true rfl) ?_
  show A5_clear G Q 0 [(0, .ref (gA G 62))] [] M
  unfold D5_clear at h
  refine a_aload_n dX5_clear_0 0 rfl ?_
  refine a_iconst (v := 0) dX5_clear_1 (by decide) ?_
  refine a_put3 dX5_clear_2 9 (by decide) (tbc _ kF_RX5_73) (fun w h => tbc _ (uW3 w h)) rfl rfl rfl rfl ob_62 fs3_9 ?_
  refine a_aload_n dX5_clear_5 0 rfl ?_
  refine a_get3 dX5_clear_6 36 (by decide) (tbc _ kF_RX5_301) (fun w h => tbc _ (uW3 w h)) rfl ob_62 rfl ?_
  refine a_istore_n (i := 1) (L' := [(1, .int _), (0, .ref _)]) dX5_clear_9 rfl (by decide) rfl ?_
  refine a_aload_n dX5_clear_10 1 rfl ?_
  refine a_iconst (v := 0) dX5_clear_11 (by decide) ?_
  refine a_put3 dX5_clear_12 36 (by decide) (tbc _ kF_RX5_301) (fun w h => tbc _ (uW3 w h)) rfl rfl rfl rfl ob_62 fs3_36 ?_
  refine a_iload_n dX5_clear_15 0 rfl ?_
  exact a_iret dX5_clear_16 ⟨_, rfl, h⟩

/-! X5_wetNow -/
theorem dX5_wetNow_0 : decode cX5_wetNow 0 = .ok (.aload_n 0, 1) := by decide +kernel
theorem dX5_wetNow_1 : decode cX5_wetNow 1 = .ok (.aload_n 0, 1) := by decide +kernel
theorem dX5_wetNow_2 : decode cX5_wetNow 2 = .ok (.getfield 114, 3) := by decide +kernel
theorem dX5_wetNow_5 : decode cX5_wetNow 5 = .ok (.invokestatic 117, 3) := by decide +kernel
theorem dX5_wetNow_8 : decode cX5_wetNow 8 = .ok (.invokevirtual 121, 3) := by decide +kernel
theorem dX5_wetNow_11 : decode cX5_wetNow 11 = .ok (.aload_n 0, 1) := by decide +kernel
theorem dX5_wetNow_12 : decode cX5_wetNow 12 = .ok (.getfield 90, 3) := by decide +kernel
theorem dX5_wetNow_15 : decode cX5_wetNow 15 = .ok (.ireturn, 1) := by decide +kernel
abbrev A5_wetNow (G : GG) (Q : Int32 → MM → Prop) := AW G E0 (MZ G (qI Q)) (WY yX5_wetNow cX5_wetNow 1 (some .int)) RX5 cX5_wetNow 1 (some .int) ({ frames := 3, cells := 0, slots := 0, locals := 66 } : Room) 0 0
def D5_wetNow (M : MM) (Q : Int32 → MM → Prop) : Prop := D5_levelAt (M 62 8) M (fun (r1 : Int32) (M2 : MM) => D5_layWet r1 M2 (fun (M4 : MM) => Q (M4 62 12) M4))
set_option maxHeartbeats 4000000 in
set_option maxRecDepth 100000 in
theorem s5_wetNow {G : GG} {M : MM} {Q : Int32 → MM → Prop} (h : D5_wetNow M Q) : CM G yX5_wetNow (WY yX5_wetNow cX5_wetNow 1 (some .int)) 3 66 [.ref (gA G 62)] M (qI Q) := by
  refine CM.of (cc := cX5_wetNow) (nL := 1) (ret := (some .int)) (own := RX5) (by decide +kernel) rfl rfl (Nat.le_of_ble_eq_true rfl) ?_
  show A5_wetNow G Q 0 [(0, .ref (gA G 62))] [] M
  unfold D5_wetNow at h
  refine a_aload_n dX5_wetNow_0 0 rfl ?_
  refine a_aload_n dX5_wetNow_1 0 rfl ?_
  refine a_get3 dX5_wetNow_2 8 (by decide) (tbc _ kF_RX5_114) (fun w h => tbc _ (uW3 w h)) rfl ob_62 rfl ?_
  refine a_callSi (n := 1) [.int _] dX5_wetNow_5 (s5_levelAt h) (gS tbc kM_RX5_117_X5_levelAt kT_X5_levelAt kN_RX5 kC_X5_levelAt) rfl (by decide +kernel) ⟨Nat.le_of_ble_eq_true rfl, Nat.le_of_ble_eq_true rfl⟩ rfl rfl (Nat.le_of_ble_eq_true rfl) ⟨Nat.le_refl 0, Nat.le_refl 0⟩ (fun r M h => ?_)
  refine a_callVv (n := 1) [.int _] (C := RX5) (ci := 3) (qc := (RX5, TX5, 40)) (fsF := fl3 G _) ob_62.1 (fun _ => en3 ob_62.2) rfl rfl dX5_wetNow_8 (s5_layWet h) (gV tbc kM_RX5_121_X5_layWet kI_X5_layWet kS_X5_layWet kN_RX5 kC_X5_layWet) rfl (by decide +kernel) ⟨Nat.le_of_ble_eq_true rfl, Nat.le_of_ble_eq_true rfl⟩ rfl rfl (Nat.le_of_ble_eq_true rfl) ⟨Nat.le_refl 0, Nat.le_refl 0⟩ (fun M h => ?_)
  refine a_aload_n dX5_wetNow_11 0 rfl ?_
  refine a_get3 dX5_wetNow_12 12 (by decide) (tbc _ kF_RX5_90) (fun w h => tbc _ (uW3 w h)) rfl ob_62 rfl ?_
  exact a_iret dX5_wetNow_15 ⟨_, rfl, h⟩

/-! X5_count -/
theorem dX5_count_0 : decode cX5_count 0 = .ok (.aload_n 0, 1) := by decide +kernel
theorem dX5_count_1 : decode cX5_count 1 = .ok (.iconst 0, 1) := by decide +kernel
theorem dX5_count_2 : decode cX5_count 2 = .ok (.putfield 73, 3) := by decide +kernel
theorem dX5_count_5 : decode cX5_count 5 = .ok (.iload_n 1, 1) := by decide +kernel
theorem dX5_count_6 : decode cX5_count 6 = .ok (.tableswitch 95 0 8 #[50, 55, 60, 65, 70, 75, 80, 85, 90], 50) := by decide +kernel
theorem dX5_count_56 : decode cX5_count 56 = .ok (.aload_n 0, 1) := by decide +kernel
theorem dX5_count_57 : decode cX5_count 57 = .ok (.getfield 77, 3) := by decide +kernel
theorem dX5_count_60 : decode cX5_count 60 = .ok (.ireturn, 1) := by decide +kernel
theorem dX5_count_61 : decode cX5_count 61 = .ok (.aload_n 0, 1) := by decide +kernel
theorem dX5_count_62 : decode cX5_count 62 = .ok (.getfield 114, 3) := by decide +kernel
theorem dX5_count_65 : decode cX5_count 65 = .ok (.ireturn, 1) := by decide +kernel
theorem dX5_count_66 : decode cX5_count 66 = .ok (.aload_n 0, 1) := by decide +kernel
theorem dX5_count_67 : decode cX5_count 67 = .ok (.getfield 131, 3) := by decide +kernel
theorem dX5_count_70 : decode cX5_count 70 = .ok (.ireturn, 1) := by decide +kernel
theorem dX5_count_71 : decode cX5_count 71 = .ok (.aload_n 0, 1) := by decide +kernel
theorem dX5_count_72 : decode cX5_count 72 = .ok (.getfield 137, 3) := by decide +kernel
theorem dX5_count_75 : decode cX5_count 75 = .ok (.ireturn, 1) := by decide +kernel
theorem dX5_count_76 : decode cX5_count 76 = .ok (.aload_n 0, 1) := by decide +kernel
theorem dX5_count_77 : decode cX5_count 77 = .ok (.invokevirtual 251, 3) := by decide +kernel
theorem dX5_count_80 : decode cX5_count 80 = .ok (.ireturn, 1) := by decide +kernel
theorem dX5_count_81 : decode cX5_count 81 = .ok (.aload_n 0, 1) := by decide +kernel
theorem dX5_count_82 : decode cX5_count 82 = .ok (.invokevirtual 257, 3) := by decide +kernel
theorem dX5_count_85 : decode cX5_count 85 = .ok (.ireturn, 1) := by decide +kernel
theorem dX5_count_86 : decode cX5_count 86 = .ok (.aload_n 0, 1) := by decide +kernel
theorem dX5_count_87 : decode cX5_count 87 = .ok (.getfield 152, 3) := by decide +kernel
theorem dX5_count_90 : decode cX5_count 90 = .ok (.ireturn, 1) := by decide +kernel
theorem dX5_count_91 : decode cX5_count 91 = .ok (.aload_n 0, 1) := by decide +kernel
theorem dX5_count_92 : decode cX5_count 92 = .ok (.getfield 301, 3) := by decide +kernel
theorem dX5_count_95 : decode cX5_count 95 = .ok (.ireturn, 1) := by decide +kernel
theorem dX5_count_96 : decode cX5_count 96 = .ok (.aload_n 0, 1) := by decide +kernel
theorem dX5_count_97 : decode cX5_count 97 = .ok (.getfield 218, 3) := by decide +kernel
theorem dX5_count_100 : decode cX5_count 100 = .ok (.ireturn, 1) := by decide +kernel
theorem dX5_count_101 : decode cX5_count 101 = .ok (.iload_n 1, 1) := by decide +kernel
theorem dX5_count_102 : decode cX5_count 102 = .ok (.i2l, 1) := by decide +kernel
theorem dX5_count_103 : decode cX5_count 103 = .ok (.ldc2_w 341, 3) := by decide +kernel
theorem dX5_count_106 : decode cX5_count 106 = .ok (.ldc2_w 343, 3) := by decide +kernel
theorem dX5_count_109 : decode cX5_count 109 = .ok (.invokestatic 80, 3) := by decide +kernel
theorem dX5_count_112 : decode cX5_count 112 = .ok (.ifCond .eq 15, 3) := by decide +kernel
theorem dX5_count_115 : decode cX5_count 115 = .ok (.aload_n 0, 1) := by decide +kernel
theorem dX5_count_116 : decode cX5_count 116 = .ok (.getfield 25, 3) := by decide +kernel
theorem dX5_count_119 : decode cX5_count 119 = .ok (.iload_n 1, 1) := by decide +kernel
theorem dX5_count_120 : decode cX5_count 120 = .ok (.bipush 10, 2) := by decide +kernel
theorem dX5_count_122 : decode cX5_count 122 = .ok (.isub, 1) := by decide +kernel
theorem dX5_count_123 : decode cX5_count 123 = .ok (.iaload, 1) := by decide +kernel
theorem dX5_count_124 : decode cX5_count 124 = .ok (.goto 5, 3) := by decide +kernel
theorem dX5_count_127 : decode cX5_count 127 = .ok (.bipush (-9), 2) := by decide +kernel
theorem dX5_count_129 : decode cX5_count 129 = .ok (.ireturn, 1) := by decide +kernel
abbrev A5_count (G : GG) (Q : Int32 → MM → Prop) := AW G E0 (MZ G (qI Q)) (WY yX5_count cX5_count 2 (some .int)) RX5 cX5_count 2 (some .int) ({ frames := 4, cells := 0, slots := 0, locals := 86 } : Room) 0 0
def D5_count (x1 : Int32) (M : MM) (Q : Int32 → MM → Prop) : Prop := (fun M1 : MM => ((x1 = 0 → Q (M1 62 0) M1) ∧ (¬ x1 = 0 → ((x1 = 1 → Q (M1 62 8) M1) ∧ (¬ x1 = 1 → ((x1 = 2 → Q (M1 62 6) M1) ∧ (¬ x1 = 2 → ((x1 = 3 → Q (M1 62 7) M1) ∧ (¬ x1 = 3 → ((x1 = 4 → D5_standing M1 (fun (r2 : Int32) (M3 : MM) => Q r2 M3)) ∧ (¬ x1 = 4 → ((x1 = 5 → D5_wetNow M1 (fun (r4 : Int32) (M5 : MM) => Q r4 M5)) ∧ (¬ x1 = 5 → ((x1 = 6 → Q (M1 62 17) M1) ∧ (¬ x1 = 6 → ((x1 = 7 → Q (M1 62 36) M1) ∧ (¬ x1 = 7 → ((x1 = 8 → Q (M1 62 32) M1) ∧ (¬ x1 = 8 → D5_in x1.toInt64 (11 : Int64) (16 : Int64) M1 (fun (r6 : Int32) (M7 : MM) => ((r6 = 0 → Q (-9 : Int32) M7) ∧ (¬ r6 = 0 → ib 68 (x1 - (10 : Int32)) ∧ Q (M7 68 (ix (x1 - (10 : Int32)))) M7)))))))))))))))))))))) (up M 62 9 (0 : Int32))
set_option maxHeartbeats 4000000 in
set_option maxRecDepth 100000 in
theorem s5_count {G : GG} {x1 : Int32} {M : MM} {Q : Int32 → MM → Prop} (h : D5_count x1 M Q) : CM G yX5_count (WY yX5_count cX5_count 2 (some .int)) 4 86 [.ref (gA G 62), .int x1] M (qI Q) := by
  refine CM.of (cc := cX5_count) (nL := 2) (ret := (some .int)) (own := RX5) (by decide +kernel) rfl rfl (Nat.le_of_ble_eq_true rfl) ?_
  show A5_count G Q 0 [(0, .ref (gA G 62)), (1, .int x1)] [] M
  unfold D5_count at h
  refine a_aload_n dX5_count_0 0 rfl ?_
  refine a_iconst (v := 0) dX5_count_1 (by decide) ?_
  refine a_put3 dX5_count_2 9 (by decide) (tbc _ kF_RX5_73) (fun w h => tbc _ (uW3 w h)) rfl rfl rfl rfl ob_62 fs3_9 ?_
  refine a_iload_n dX5_count_5 1 rfl ?_
  refine em_c h (fun c0 h => ?_) (fun c0 h => ?_)
  · refine a_tableIn (off := 50) (tgt := 56) dX5_count_6 (by rw [c0]; decide) (by rw [c0]; decide) (by rw [c0]; rfl) (by decide) ?_
    refine a_aload_n dX5_count_56 0 rfl ?_
    refine a_get3 dX5_count_57 0 (by decide) (tbc _ kF_RX5_77) (fun w h => tbc _ (uW3 w h)) rfl ob_62 rfl ?_
    exact a_iret dX5_count_60 ⟨_, rfl, h⟩
  · refine em_c h (fun c1 h => ?_) (fun c1 h => ?_)
    · refine a_tableIn (off := 55) (tgt := 61) dX5_count_6 (by rw [c1]; decide) (by rw [c1]; decide) (by rw [c1]; rfl) (by decide) ?_
      refine a_aload_n dX5_count_61 0 rfl ?_
      refine a_get3 dX5_count_62 8 (by decide) (tbc _ kF_RX5_114) (fun w h => tbc _ (uW3 w h)) rfl ob_62 rfl ?_
      exact a_iret dX5_count_65 ⟨_, rfl, h⟩
    · refine em_c h (fun c2 h => ?_) (fun c2 h => ?_)
      · refine a_tableIn (off := 60) (tgt := 66) dX5_count_6 (by rw [c2]; decide) (by rw [c2]; decide) (by rw [c2]; rfl) (by decide) ?_
        refine a_aload_n dX5_count_66 0 rfl ?_
        refine a_get3 dX5_count_67 6 (by decide) (tbc _ kF_RX5_131) (fun w h => tbc _ (uW3 w h)) rfl ob_62 rfl ?_
        exact a_iret dX5_count_70 ⟨_, rfl, h⟩
      · refine em_c h (fun c3 h => ?_) (fun c3 h => ?_)
        · refine a_tableIn (off := 65) (tgt := 71) dX5_count_6 (by rw [c3]; decide) (by rw [c3]; decide) (by rw [c3]; rfl) (by decide) ?_
          refine a_aload_n dX5_count_71 0 rfl ?_
          refine a_get3 dX5_count_72 7 (by decide) (tbc _ kF_RX5_137) (fun w h => tbc _ (uW3 w h)) rfl ob_62 rfl ?_
          exact a_iret dX5_count_75 ⟨_, rfl, h⟩
        · refine em_c h (fun c4 h => ?_) (fun c4 h => ?_)
          · refine a_tableIn (off := 70) (tgt := 76) dX5_count_6 (by rw [c4]; decide) (by rw [c4]; decide) (by rw [c4]; rfl) (by decide) ?_
            refine a_aload_n dX5_count_76 0 rfl ?_
            refine a_callVi (n := 0) [] (C := RX5) (ci := 3) (qc := (RX5, TX5, 40)) (fsF := fl3 G _) ob_62.1 (fun _ => en3 ob_62.2) rfl rfl dX5_count_77 (s5_standing h) (gV tbc kM_RX5_251_X5_standing kI_X5_standing kS_X5_standing kN_RX5 kC_X5_standing) rfl (by decide +kernel) ⟨Nat.le_of_ble_eq_true rfl, Nat.le_of_ble_eq_true rfl⟩ rfl rfl (Nat.le_of_ble_eq_true rfl) ⟨Nat.le_refl 0, Nat.le_refl 0⟩ (fun r M h => ?_)
            exact a_iret dX5_count_80 ⟨_, rfl, h⟩
          · refine em_c h (fun c5 h => ?_) (fun c5 h => ?_)
            · refine a_tableIn (off := 75) (tgt := 81) dX5_count_6 (by rw [c5]; decide) (by rw [c5]; decide) (by rw [c5]; rfl) (by decide) ?_
              refine a_aload_n dX5_count_81 0 rfl ?_
              refine a_callVi (n := 0) [] (C := RX5) (ci := 3) (qc := (RX5, TX5, 40)) (fsF := fl3 G _) ob_62.1 (fun _ => en3 ob_62.2) rfl rfl dX5_count_82 (s5_wetNow h) (gV tbc kM_RX5_257_X5_wetNow kI_X5_wetNow kS_X5_wetNow kN_RX5 kC_X5_wetNow) rfl (by decide +kernel) ⟨Nat.le_of_ble_eq_true rfl, Nat.le_of_ble_eq_true rfl⟩ rfl rfl (Nat.le_of_ble_eq_true rfl) ⟨Nat.le_refl 0, Nat.le_refl 0⟩ (fun r M h => ?_)
              exact a_iret dX5_count_85 ⟨_, rfl, h⟩
            · refine em_c h (fun c6 h => ?_) (fun c6 h => ?_)
              · refine a_tableIn (off := 80) (tgt := 86) dX5_count_6 (by rw [c6]; decide) (by rw [c6]; decide) (by rw [c6]; rfl) (by decide) ?_
                refine a_aload_n dX5_count_86 0 rfl ?_
                refine a_get3 dX5_count_87 17 (by decide) (tbc _ kF_RX5_152) (fun w h => tbc _ (uW3 w h)) rfl ob_62 rfl ?_
                exact a_iret dX5_count_90 ⟨_, rfl, h⟩
              · refine em_c h (fun c7 h => ?_) (fun c7 h => ?_)
                · refine a_tableIn (off := 85) (tgt := 91) dX5_count_6 (by rw [c7]; decide) (by rw [c7]; decide) (by rw [c7]; rfl) (by decide) ?_
                  refine a_aload_n dX5_count_91 0 rfl ?_
                  refine a_get3 dX5_count_92 36 (by decide) (tbc _ kF_RX5_301) (fun w h => tbc _ (uW3 w h)) rfl ob_62 rfl ?_
                  exact a_iret dX5_count_95 ⟨_, rfl, h⟩
                · refine em_c h (fun c8 h => ?_) (fun c8 h => ?_)
                  · refine a_tableIn (off := 90) (tgt := 96) dX5_count_6 (by rw [c8]; decide) (by rw [c8]; decide) (by rw [c8]; rfl) (by decide) ?_
                    refine a_aload_n dX5_count_96 0 rfl ?_
                    refine a_get3 dX5_count_97 32 (by decide) (tbc _ kF_RX5_218) (fun w h => tbc _ (uW3 w h)) rfl ob_62 rfl ?_
                    exact a_iret dX5_count_100 ⟨_, rfl, h⟩
                  · refine a_tableD (tgt := 101) dX5_count_6 (by decide) (fun k h1 h2 e => by have hk : k = 0 ∨ k = 1 ∨ k = 2 ∨ k = 3 ∨ k = 4 ∨ k = 5 ∨ k = 6 ∨ k = 7 ∨ k = 8 := (by omega); rcases hk with rfl | rfl | rfl | rfl | rfl | rfl | rfl | rfl | rfl <;> first | rfl | exact absurd e (ne_ti c0 (by decide)) | exact absurd e (ne_ti c1 (by decide)) | exact absurd e (ne_ti c2 (by decide)) | exact absurd e (ne_ti c3 (by decide)) | exact absurd e (ne_ti c4 (by decide)) | exact absurd e (ne_ti c5 (by decide)) | exact absurd e (ne_ti c6 (by decide)) | exact absurd e (ne_ti c7 (by decide)) | exact absurd e (ne_ti c8 (by decide))) ?_
                    refine a_iload_n dX5_count_101 1 rfl ?_
                    refine a_i2l dX5_count_102 ?_
                    refine a_ldc2 dX5_count_103 (tbc _ kL_RX5_341) ?_
                    refine a_ldc2 dX5_count_106 (tbc _ kL_RX5_343) ?_
                    refine a_callSi (n := 3) [.long _, .long _, .long _] dX5_count_109 (s5_in h) (gS tbc kM_RX5_80_X5_in kT_X5_in kN_RX5 kC_X5_in) rfl (by decide +kernel) ⟨Nat.le_of_ble_eq_true rfl, Nat.le_of_ble_eq_true rfl⟩ rfl rfl (Nat.le_of_ble_eq_true rfl) ⟨Nat.le_refl 0, Nat.le_refl 0⟩ (fun r M h => ?_)
                    refine a_if_eq (tgt := 127) dX5_count_112 (by decide) (fun c => ?_) (fun c => ?_)
                    · have h := h.1 c
                      refine a_bipush (v := -9) dX5_count_127 (by decide) ?_
                      exact a_iret dX5_count_129 ⟨_, rfl, h⟩
                    · have h := h.2 c
                      refine a_aload_n dX5_count_115 0 rfl ?_
                      refine a_get3 dX5_count_116 10 (by decide) (tbc _ kF_RX5_25) (fun w h => tbc _ (uW3 w h)) rfl ob_62 rfl ?_
                      refine a_iload_n dX5_count_119 1 rfl ?_
                      refine a_bipush (v := 10) dX5_count_120 (by decide) ?_
                      refine a_isub dX5_count_122 ?_
                      refine a_iald dX5_count_123 h.1 ?_
                      have h := h.2
                      refine a_goto (tgt := 129) dX5_count_124 (by decide) ?_
                      exact a_iret dX5_count_129 ⟨_, rfl, h⟩

/-! X5_divisor -/
theorem dX5_divisor_0 : decode cX5_divisor 0 = .ok (.lload_n 0, 1) := by decide +kernel
theorem dX5_divisor_1 : decode cX5_divisor 1 = .ok (.lstore 4, 2) := by decide +kernel
theorem dX5_divisor_3 : decode cX5_divisor 3 = .ok (.lload_n 2, 1) := by decide +kernel
theorem dX5_divisor_4 : decode cX5_divisor 4 = .ok (.lstore 6, 2) := by decide +kernel
theorem dX5_divisor_6 : decode cX5_divisor 6 = .ok (.lload 6, 2) := by decide +kernel
theorem dX5_divisor_8 : decode cX5_divisor 8 = .ok (.lconst 0, 1) := by decide +kernel
theorem dX5_divisor_9 : decode cX5_divisor 9 = .ok (.lcmp, 1) := by decide +kernel
theorem dX5_divisor_10 : decode cX5_divisor 10 = .ok (.ifCond .eq 21, 3) := by decide +kernel
theorem dX5_divisor_13 : decode cX5_divisor 13 = .ok (.lload 4, 2) := by decide +kernel
theorem dX5_divisor_15 : decode cX5_divisor 15 = .ok (.lload 6, 2) := by decide +kernel
theorem dX5_divisor_17 : decode cX5_divisor 17 = .ok (.lrem, 1) := by decide +kernel
theorem dX5_divisor_18 : decode cX5_divisor 18 = .ok (.lstore 8, 2) := by decide +kernel
theorem dX5_divisor_20 : decode cX5_divisor 20 = .ok (.lload 6, 2) := by decide +kernel
theorem dX5_divisor_22 : decode cX5_divisor 22 = .ok (.lstore 4, 2) := by decide +kernel
theorem dX5_divisor_24 : decode cX5_divisor 24 = .ok (.lload 8, 2) := by decide +kernel
theorem dX5_divisor_26 : decode cX5_divisor 26 = .ok (.lstore 6, 2) := by decide +kernel
theorem dX5_divisor_28 : decode cX5_divisor 28 = .ok (.goto (-22), 3) := by decide +kernel
theorem dX5_divisor_31 : decode cX5_divisor 31 = .ok (.lload 4, 2) := by decide +kernel
theorem dX5_divisor_33 : decode cX5_divisor 33 = .ok (.lreturn, 1) := by decide +kernel
abbrev A5_divisor (G : GG) (Q : Int64 → MM → Prop) := AW G E0 (MZ G (qL Q)) (WY yX5_divisor cX5_divisor 10 (some .long)) RX5 cX5_divisor 10 (some .long) ({ frames := 0, cells := 0, slots := 0, locals := 0 } : Room) 0 0
def D5_divisor_c6 (Q : Int64 → MM → Prop) : Nat → Int64 → Int64 → MM → Prop
  | 0, _, _, _ => False
  | n + 1, x4, x6, M => (((lg_cmp x6 (0 : Int64)) = 0 → Q x4 M) ∧ (¬ (lg_cmp x6 (0 : Int64)) = 0 → ¬ x6 = 0 ∧ (fun v1 : Int64 => D5_divisor_c6 Q n x6 v1 M) (x4 - x4 / x6 * x6)))
def D5_divisor (x0 : Int64) (x2 : Int64) (M : MM) (Q : Int64 → MM → Prop) : Prop := D5_divisor_c6 Q FU x0 x2 M
set_option maxHeartbeats 4000000 in
set_option maxRecDepth 100000 in
theorem s5_divisor_c6 {G : GG} {Q : Int64 → MM → Prop} : ∀ (n : Nat) (x4 : Int64) (x6 : Int64) (M : MM), D5_divisor_c6 Q n x4 x6 M → A5_divisor G Q 6 [(4, .long x4), (6, .long x6)] [] M := by
  intro n
  induction n with
  | zero => intro x4 x6 M h; exact h.elim
  | succ n ih =>
    intro x4 x6 M h
    unfold D5_divisor_c6 at h
    refine a_lload dX5_divisor_6 1 rfl ?_
    refine a_lconst (v := 0) dX5_divisor_8 (by decide) ?_
    refine a_lcmp dX5_divisor_9 ?_
    refine a_if_eq (tgt := 31) dX5_divisor_10 (by decide) (fun c => ?_) (fun c => ?_)
    · have h := h.1 c
      refine a_lload dX5_divisor_31 0 rfl ?_
      exact a_lret dX5_divisor_33 ⟨_, rfl, h⟩
    · have h := h.2 c
      refine a_lload dX5_divisor_13 0 rfl ?_
      refine a_lload dX5_divisor_15 1 rfl ?_
      refine a_lrem dX5_divisor_17 h.1 ?_
      have h := h.2
      refine a_lstore (i := 8) (L' := [(8, .long _), (4, .long _), (6, .long _)]) dX5_divisor_18 (by decide) rfl ?_
      refine a_lload dX5_divisor_20 2 rfl ?_
      refine a_lstore (i := 4) (L' := [(4, .long _), (8, .long _), (6, .long _)]) dX5_divisor_22 (by decide) rfl ?_
      refine a_lload dX5_divisor_24 1 rfl ?_
      refine a_lstore (i := 6) (L' := [(6, .long _), (4, .long _), (8, .long _)]) dX5_divisor_26 (by decide) rfl ?_
      refine a_goto (tgt := 6) dX5_divisor_28 (by decide) ?_
      refine a_sub [1, 0] rfl ?_
      exact ih _ _ _ h
set_option maxHeartbeats 4000000 in
set_option maxRecDepth 100000 in
theorem s5_divisor {G : GG} {x0 : Int64} {x2 : Int64} {M : MM} {Q : Int64 → MM → Prop} (h : D5_divisor x0 x2 M Q) : CM G yX5_divisor (WY yX5_divisor cX5_divisor 10 (some .long)) 0 0 [.long x0, .long x2] M (qL Q) := by
  refine CM.of (cc := cX5_divisor) (nL := 10) (ret := (some .long)) (own := RX5) (by decide +kernel) rfl rfl (Nat.le_of_ble_eq_true rfl) ?_
  show A5_divisor G Q 0 [(0, .long x0), (2, .long x2)] [] M
  unfold D5_divisor at h
  refine a_lload_n dX5_divisor_0 0 rfl ?_
  refine a_lstore (i := 4) (L' := [(4, .long _), (0, .long _), (2, .long _)]) dX5_divisor_1 (by decide) rfl ?_
  refine a_lload_n dX5_divisor_3 2 rfl ?_
  refine a_lstore (i := 6) (L' := [(6, .long _), (4, .long _), (0, .long _), (2, .long _)]) dX5_divisor_4 (by decide) rfl ?_
  refine a_sub [1, 0] rfl ?_
  exact s5_divisor_c6 _ _ _ _ h

/-! X5_drawBelow -/
theorem dX5_drawBelow_0 : decode cX5_drawBelow 0 = .ok (.aload_n 0, 1) := by decide +kernel
theorem dX5_drawBelow_1 : decode cX5_drawBelow 1 = .ok (.aload_n 0, 1) := by decide +kernel
theorem dX5_drawBelow_2 : decode cX5_drawBelow 2 = .ok (.getfield 332, 3) := by decide +kernel
theorem dX5_drawBelow_5 : decode cX5_drawBelow 5 = .ok (.ldc_w 335, 3) := by decide +kernel
theorem dX5_drawBelow_8 : decode cX5_drawBelow 8 = .ok (.imul, 1) := by decide +kernel
theorem dX5_drawBelow_9 : decode cX5_drawBelow 9 = .ok (.sipush 12345, 3) := by decide +kernel
theorem dX5_drawBelow_12 : decode cX5_drawBelow 12 = .ok (.iadd, 1) := by decide +kernel
theorem dX5_drawBelow_13 : decode cX5_drawBelow 13 = .ok (.putfield 332, 3) := by decide +kernel
theorem dX5_drawBelow_16 : decode cX5_drawBelow 16 = .ok (.aload_n 0, 1) := by decide +kernel
theorem dX5_drawBelow_17 : decode cX5_drawBelow 17 = .ok (.getfield 332, 3) := by decide +kernel
theorem dX5_drawBelow_20 : decode cX5_drawBelow 20 = .ok (.ldc_w 336, 3) := by decide +kernel
theorem dX5_drawBelow_23 : decode cX5_drawBelow 23 = .ok (.iand, 1) := by decide +kernel
theorem dX5_drawBelow_24 : decode cX5_drawBelow 24 = .ok (.ldc_w 337, 3) := by decide +kernel
theorem dX5_drawBelow_27 : decode cX5_drawBelow 27 = .ok (.idiv, 1) := by decide +kernel
theorem dX5_drawBelow_28 : decode cX5_drawBelow 28 = .ok (.iload_n 1, 1) := by decide +kernel
theorem dX5_drawBelow_29 : decode cX5_drawBelow 29 = .ok (.irem, 1) := by decide +kernel
theorem dX5_drawBelow_30 : decode cX5_drawBelow 30 = .ok (.ireturn, 1) := by decide +kernel
abbrev A5_drawBelow (G : GG) (Q : Int32 → MM → Prop) := AW G E0 (MZ G (qI Q)) (WY yX5_drawBelow cX5_drawBelow 2 (some .int)) RX5 cX5_drawBelow 2 (some .int) ({ frames := 0, cells := 0, slots := 0, locals := 0 } : Room) 0 0
def D5_drawBelow (x1 : Int32) (M : MM) (Q : Int32 → MM → Prop) : Prop := (fun M1 : MM => ¬ x1 = 0 ∧ Q ((((M1 62 39) &&& (2147483647 : Int32)) / (65536 : Int32)) - (((M1 62 39) &&& (2147483647 : Int32)) / (65536 : Int32)) / x1 * x1) M1) (up M 62 39 (((M 62 39) * (1103515245 : Int32)) + (12345 : Int32)))
set_option maxHeartbeats 4000000 in
set_option maxRecDepth 100000 in
theorem s5_drawBelow {G : GG} {x1 : Int32} {M : MM} {Q : Int32 → MM → Prop} (h : D5_drawBelow x1 M Q) : CM G yX5_drawBelow (WY yX5_drawBelow cX5_drawBelow 2 (some .int)) 0 0 [.ref (gA G 62), .int x1] M (qI Q) := by
  refine CM.of (cc := cX5_drawBelow) (nL := 2) (ret := (some .int)) (own := RX5) (by decide +kernel) rfl rfl (Nat.le_of_ble_eq_true rfl) ?_
  show A5_drawBelow G Q 0 [(0, .ref (gA G 62)), (1, .int x1)] [] M
  unfold D5_drawBelow at h
  refine a_aload_n dX5_drawBelow_0 0 rfl ?_
  refine a_aload_n dX5_drawBelow_1 0 rfl ?_
  refine a_get3 dX5_drawBelow_2 39 (by decide) (tbc _ kF_RX5_332) (fun w h => tbc _ (uW3 w h)) rfl ob_62 rfl ?_
  refine a_ldcw dX5_drawBelow_5 (tbc _ kK_RX5_335) ?_
  refine a_imul dX5_drawBelow_8 ?_
  refine a_sipush (v := 12345) dX5_drawBelow_9 (by decide) ?_
  refine a_iadd dX5_drawBelow_12 ?_
  refine a_put3 dX5_drawBelow_13 39 (by decide) (tbc _ kF_RX5_332) (fun w h => tbc _ (uW3 w h)) rfl rfl rfl rfl ob_62 fs3_39 ?_
  refine a_aload_n dX5_drawBelow_16 0 rfl ?_
  refine a_get3 dX5_drawBelow_17 39 (by decide) (tbc _ kF_RX5_332) (fun w h => tbc _ (uW3 w h)) rfl ob_62 rfl ?_
  refine a_ldcw dX5_drawBelow_20 (tbc _ kK_RX5_336) ?_
  refine a_iand dX5_drawBelow_23 ?_
  refine a_ldcw dX5_drawBelow_24 (tbc _ kK_RX5_337) ?_
  refine a_idiv dX5_drawBelow_27 (by decide) ?_
  refine a_iload_n dX5_drawBelow_28 1 rfl ?_
  refine a_irem dX5_drawBelow_29 h.1 ?_
  have h := h.2
  exact a_iret dX5_drawBelow_30 ⟨_, rfl, h⟩

/-! X5_wrongNumber -/
theorem dX5_wrongNumber_0 : decode cX5_wrongNumber 0 = .ok (.iload_n 0, 1) := by decide +kernel
theorem dX5_wrongNumber_1 : decode cX5_wrongNumber 1 = .ok (.iload_n 1, 1) := by decide +kernel
theorem dX5_wrongNumber_2 : decode cX5_wrongNumber 2 = .ok (.if_icmp .ge 8, 3) := by decide +kernel
theorem dX5_wrongNumber_5 : decode cX5_wrongNumber 5 = .ok (.bipush (-4), 2) := by decide +kernel
theorem dX5_wrongNumber_7 : decode cX5_wrongNumber 7 = .ok (.goto 14, 3) := by decide +kernel
theorem dX5_wrongNumber_10 : decode cX5_wrongNumber 10 = .ok (.iload_n 0, 1) := by decide +kernel
theorem dX5_wrongNumber_11 : decode cX5_wrongNumber 11 = .ok (.iload_n 2, 1) := by decide +kernel
theorem dX5_wrongNumber_12 : decode cX5_wrongNumber 12 = .ok (.if_icmp .le 8, 3) := by decide +kernel
theorem dX5_wrongNumber_15 : decode cX5_wrongNumber 15 = .ok (.bipush (-6), 2) := by decide +kernel
theorem dX5_wrongNumber_17 : decode cX5_wrongNumber 17 = .ok (.goto 4, 3) := by decide +kernel
theorem dX5_wrongNumber_20 : decode cX5_wrongNumber 20 = .ok (.iconst 0, 1) := by decide +kernel
theorem dX5_wrongNumber_21 : decode cX5_wrongNumber 21 = .ok (.ireturn, 1) := by decide +kernel
abbrev A5_wrongNumber (G : GG) (Q : Int32 → MM → Prop) := AW G E0 (MZ G (qI Q)) (WY yX5_wrongNumber cX5_wrongNumber 3 (some .int)) RX5 cX5_wrongNumber 3 (some .int) ({ frames := 0, cells := 0, slots := 0, locals := 0 } : Room) 0 0
def D5_wrongNumber (x0 : Int32) (x1 : Int32) (x2 : Int32) (M : MM) (Q : Int32 → MM → Prop) : Prop := ((x1 ≤ x0 → ((x0 ≤ x2 → Q (0 : Int32) M) ∧ (¬ x0 ≤ x2 → Q (-6 : Int32) M))) ∧ (¬ x1 ≤ x0 → Q (-4 : Int32) M))
set_option maxHeartbeats 4000000 in
set_option maxRecDepth 100000 in
theorem s5_wrongNumber {G : GG} {x0 : Int32} {x1 : Int32} {x2 : Int32} {M : MM} {Q : Int32 → MM → Prop} (h : D5_wrongNumber x0 x1 x2 M Q) : CM G yX5_wrongNumber (WY yX5_wrongNumber cX5_wrongNumber 3 (some .int)) 0 0 [.int x0, .int x1, .int x2] M (qI Q) := by
  refine CM.of (cc := cX5_wrongNumber) (nL := 3) (ret := (some .int)) (own := RX5) (by decide +kernel) rfl rfl (Nat.le_of_ble_eq_true rfl) ?_
  show A5_wrongNumber G Q 0 [(0, .int x0), (1, .int x1), (2, .int x2)] [] M
  unfold D5_wrongNumber at h
  refine a_iload_n dX5_wrongNumber_0 0 rfl ?_
  refine a_iload_n dX5_wrongNumber_1 1 rfl ?_
  refine a_icmp_ge (tgt := 10) dX5_wrongNumber_2 (by decide) (fun c => ?_) (fun c => ?_)
  · have h := h.1 c
    refine a_iload_n dX5_wrongNumber_10 0 rfl ?_
    refine a_iload_n dX5_wrongNumber_11 2 rfl ?_
    refine a_icmp_le (tgt := 20) dX5_wrongNumber_12 (by decide) (fun c => ?_) (fun c => ?_)
    · have h := h.1 c
      refine a_iconst (v := 0) dX5_wrongNumber_20 (by decide) ?_
      exact a_iret dX5_wrongNumber_21 ⟨_, rfl, h⟩
    · have h := h.2 c
      refine a_bipush (v := -6) dX5_wrongNumber_15 (by decide) ?_
      refine a_goto (tgt := 21) dX5_wrongNumber_17 (by decide) ?_
      exact a_iret dX5_wrongNumber_21 ⟨_, rfl, h⟩
  · have h := h.2 c
    refine a_bipush (v := -4) dX5_wrongNumber_5 (by decide) ?_
    refine a_goto (tgt := 21) dX5_wrongNumber_7 (by decide) ?_
    exact a_iret dX5_wrongNumber_21 ⟨_, rfl, h⟩

/-! X5_dredge -/
theorem dX5_dredge_0 : decode cX5_dredge 0 = .ok (.aload_n 0, 1) := by decide +kernel
theorem dX5_dredge_1 : decode cX5_dredge 1 = .ok (.iconst 0, 1) := by decide +kernel
theorem dX5_dredge_2 : decode cX5_dredge 2 = .ok (.putfield 73, 3) := by decide +kernel
theorem dX5_dredge_5 : decode cX5_dredge 5 = .ok (.iload_n 1, 1) := by decide +kernel
theorem dX5_dredge_6 : decode cX5_dredge 6 = .ok (.iconst 0, 1) := by decide +kernel
theorem dX5_dredge_7 : decode cX5_dredge 7 = .ok (.bipush 60, 2) := by decide +kernel
theorem dX5_dredge_9 : decode cX5_dredge 9 = .ok (.invokestatic 244, 3) := by decide +kernel
theorem dX5_dredge_12 : decode cX5_dredge 12 = .ok (.istore_n 2, 1) := by decide +kernel
theorem dX5_dredge_13 : decode cX5_dredge 13 = .ok (.iload_n 2, 1) := by decide +kernel
theorem dX5_dredge_14 : decode cX5_dredge 14 = .ok (.ifCond .ge 9, 3) := by decide +kernel
theorem dX5_dredge_17 : decode cX5_dredge 17 = .ok (.aload_n 0, 1) := by decide +kernel
theorem dX5_dredge_18 : decode cX5_dredge 18 = .ok (.iload_n 2, 1) := by decide +kernel
theorem dX5_dredge_19 : decode cX5_dredge 19 = .ok (.invokevirtual 149, 3) := by decide +kernel
theorem dX5_dredge_22 : decode cX5_dredge 22 = .ok (.ireturn, 1) := by decide +kernel
theorem dX5_dredge_23 : decode cX5_dredge 23 = .ok (.bipush (-9), 2) := by decide +kernel
theorem dX5_dredge_25 : decode cX5_dredge 25 = .ok (.istore_n 3, 1) := by decide +kernel
theorem dX5_dredge_26 : decode cX5_dredge 26 = .ok (.aload_n 0, 1) := by decide +kernel
theorem dX5_dredge_27 : decode cX5_dredge 27 = .ok (.invokevirtual 209, 3) := by decide +kernel
theorem dX5_dredge_30 : decode cX5_dredge 30 = .ok (.aload_n 0, 1) := by decide +kernel
theorem dX5_dredge_31 : decode cX5_dredge 31 = .ok (.iload_n 1, 1) := by decide +kernel
theorem dX5_dredge_32 : decode cX5_dredge 32 = .ok (.invokevirtual 200, 3) := by decide +kernel
theorem dX5_dredge_35 : decode cX5_dredge 35 = .ok (.aload_n 0, 1) := by decide +kernel
theorem dX5_dredge_36 : decode cX5_dredge 36 = .ok (.getfield 131, 3) := by decide +kernel
theorem dX5_dredge_39 : decode cX5_dredge 39 = .ok (.aload_n 0, 1) := by decide +kernel
theorem dX5_dredge_40 : decode cX5_dredge 40 = .ok (.getfield 137, 3) := by decide +kernel
theorem dX5_dredge_43 : decode cX5_dredge 43 = .ok (.isub, 1) := by decide +kernel
theorem dX5_dredge_44 : decode cX5_dredge 44 = .ok (.istore 4, 2) := by decide +kernel
theorem dX5_dredge_46 : decode cX5_dredge 46 = .ok (.aload_n 0, 1) := by decide +kernel
theorem dX5_dredge_47 : decode cX5_dredge 47 = .ok (.invokevirtual 215, 3) := by decide +kernel
theorem dX5_dredge_50 : decode cX5_dredge 50 = .ok (.iconst 0, 1) := by decide +kernel
theorem dX5_dredge_51 : decode cX5_dredge 51 = .ok (.istore 5, 2) := by decide +kernel
theorem dX5_dredge_53 : decode cX5_dredge 53 = .ok (.iload 5, 2) := by decide +kernel
theorem dX5_dredge_55 : decode cX5_dredge 55 = .ok (.aload_n 0, 1) := by decide +kernel
theorem dX5_dredge_56 : decode cX5_dredge 56 = .ok (.getfield 77, 3) := by decide +kernel
theorem dX5_dredge_59 : decode cX5_dredge 59 = .ok (.if_icmp .ge 67, 3) := by decide +kernel
theorem dX5_dredge_62 : decode cX5_dredge 62 = .ok (.aload_n 0, 1) := by decide +kernel
theorem dX5_dredge_63 : decode cX5_dredge 63 = .ok (.getfield 22, 3) := by decide +kernel
theorem dX5_dredge_66 : decode cX5_dredge 66 = .ok (.iload 5, 2) := by decide +kernel
theorem dX5_dredge_68 : decode cX5_dredge 68 = .ok (.iconst 1, 1) := by decide +kernel
theorem dX5_dredge_69 : decode cX5_dredge 69 = .ok (.iastore, 1) := by decide +kernel
theorem dX5_dredge_70 : decode cX5_dredge 70 = .ok (.aload_n 0, 1) := by decide +kernel
theorem dX5_dredge_71 : decode cX5_dredge 71 = .ok (.iload_n 1, 1) := by decide +kernel
theorem dX5_dredge_72 : decode cX5_dredge 72 = .ok (.invokevirtual 200, 3) := by decide +kernel
theorem dX5_dredge_75 : decode cX5_dredge 75 = .ok (.aload_n 0, 1) := by decide +kernel
theorem dX5_dredge_76 : decode cX5_dredge 76 = .ok (.getfield 131, 3) := by decide +kernel
theorem dX5_dredge_79 : decode cX5_dredge 79 = .ok (.aload_n 0, 1) := by decide +kernel
theorem dX5_dredge_80 : decode cX5_dredge 80 = .ok (.getfield 137, 3) := by decide +kernel
theorem dX5_dredge_83 : decode cX5_dredge 83 = .ok (.isub, 1) := by decide +kernel
theorem dX5_dredge_84 : decode cX5_dredge 84 = .ok (.istore 6, 2) := by decide +kernel
theorem dX5_dredge_86 : decode cX5_dredge 86 = .ok (.aload_n 0, 1) := by decide +kernel
theorem dX5_dredge_87 : decode cX5_dredge 87 = .ok (.invokevirtual 215, 3) := by decide +kernel
theorem dX5_dredge_90 : decode cX5_dredge 90 = .ok (.iload 6, 2) := by decide +kernel
theorem dX5_dredge_92 : decode cX5_dredge 92 = .ok (.iload 4, 2) := by decide +kernel
theorem dX5_dredge_94 : decode cX5_dredge 94 = .ok (.if_icmp .le 8, 3) := by decide +kernel
theorem dX5_dredge_97 : decode cX5_dredge 97 = .ok (.iload 5, 2) := by decide +kernel
theorem dX5_dredge_99 : decode cX5_dredge 99 = .ok (.goto 4, 3) := by decide +kernel
theorem dX5_dredge_102 : decode cX5_dredge 102 = .ok (.iload_n 3, 1) := by decide +kernel
theorem dX5_dredge_103 : decode cX5_dredge 103 = .ok (.istore_n 3, 1) := by decide +kernel
theorem dX5_dredge_104 : decode cX5_dredge 104 = .ok (.iload 6, 2) := by decide +kernel
theorem dX5_dredge_106 : decode cX5_dredge 106 = .ok (.iload 4, 2) := by decide +kernel
theorem dX5_dredge_108 : decode cX5_dredge 108 = .ok (.if_icmp .le 8, 3) := by decide +kernel
theorem dX5_dredge_111 : decode cX5_dredge 111 = .ok (.iload 6, 2) := by decide +kernel
theorem dX5_dredge_113 : decode cX5_dredge 113 = .ok (.goto 5, 3) := by decide +kernel
theorem dX5_dredge_116 : decode cX5_dredge 116 = .ok (.iload 4, 2) := by decide +kernel
theorem dX5_dredge_118 : decode cX5_dredge 118 = .ok (.istore 4, 2) := by decide +kernel
theorem dX5_dredge_120 : decode cX5_dredge 120 = .ok (.iinc 5 1, 3) := by decide +kernel
theorem dX5_dredge_123 : decode cX5_dredge 123 = .ok (.goto (-70), 3) := by decide +kernel
theorem dX5_dredge_126 : decode cX5_dredge 126 = .ok (.iload_n 3, 1) := by decide +kernel
theorem dX5_dredge_127 : decode cX5_dredge 127 = .ok (.ireturn, 1) := by decide +kernel
abbrev A5_dredge (G : GG) (Q : Int32 → MM → Prop) := AW G E0 (MZ G (qI Q)) (WY yX5_dredge cX5_dredge 7 (some .int)) RX5 cX5_dredge 7 (some .int) ({ frames := 5, cells := 0, slots := 0, locals := 111 } : Room) 0 0
def D5_dredge_c118 (K53 : Int32 → Int32 → Int32 → Int32 → MM → Prop) (Q : Int32 → MM → Prop) (x1 : Int32) (x3 : Int32) (x5 : Int32) (s0 : Int32) (M : MM) : Prop := (fun v19 : Int32 => K53 x1 x3 s0 v19 M) (x5 + (1 : Int32))
def D5_dredge_c103 (K53 : Int32 → Int32 → Int32 → Int32 → MM → Prop) (Q : Int32 → MM → Prop) (x1 : Int32) (x4 : Int32) (x5 : Int32) (x6 : Int32) (s0 : Int32) (M : MM) : Prop := ((x6 ≤ x4 → D5_dredge_c118 K53 Q x1 s0 x5 x4 M) ∧ (¬ x6 ≤ x4 → D5_dredge_c118 K53 Q x1 s0 x5 x6 M))
def D5_dredge_c53 (Q : Int32 → MM → Prop) : Nat → Int32 → Int32 → Int32 → Int32 → MM → Prop
  | 0, _, _, _, _, _ => False
  | n + 1, x1, x3, x4, x5, M => (((M 62 0) ≤ x5 → Q x3 M) ∧ (¬ (M 62 0) ≤ x5 → ib 67 x5 ∧ (fun M13 : MM => D5_goHours x1 M13 (fun (M15 : MM) => (fun v16 : Int32 => D5_again M15 (fun (M18 : MM) => ((v16 ≤ x4 → D5_dredge_c103 (D5_dredge_c53 Q n) Q x1 x4 x5 v16 x3 M18) ∧ (¬ v16 ≤ x4 → D5_dredge_c103 (D5_dredge_c53 Q n) Q x1 x4 x5 v16 x5 M18)))) ((M15 62 6) - (M15 62 7)))) (up M 67 (ix x5) (1 : Int32))))
def D5_dredge (x1 : Int32) (M : MM) (Q : Int32 → MM → Prop) : Prop := (fun M1 : MM => D5_wrongNumber x1 (0 : Int32) (60 : Int32) M1 (fun (r2 : Int32) (M3 : MM) => ((0 ≤ r2 → D5_think M3 (fun (M5 : MM) => D5_goHours x1 M5 (fun (M7 : MM) => (fun v8 : Int32 => D5_again M7 (fun (M10 : MM) => D5_dredge_c53 Q FU x1 (-9 : Int32) v8 (0 : Int32) M10)) ((M7 62 6) - (M7 62 7))))) ∧ (¬ 0 ≤ r2 → D5_refuse r2 M3 (fun (r11 : Int32) (M12 : MM) => Q r11 M12))))) (up M 62 9 (0 : Int32))
set_option maxHeartbeats 4000000 in
set_option maxRecDepth 100000 in
theorem s5_dredge_c118 {G : GG} {K53 : Int32 → Int32 → Int32 → Int32 → MM → Prop} {Q : Int32 → MM → Prop} (hK53 : ∀ (x1 : Int32) (x3 : Int32) (x4 : Int32) (x5 : Int32) (M : MM), K53 x1 x3 x4 x5 M → A5_dredge G Q 53 [(0, .ref (gA G 62)), (1, .int x1), (3, .int x3), (4, .int x4), (5, .int x5)] [] M) : ∀ (x1 : Int32) (x3 : Int32) (x5 : Int32) (s0 : Int32) (M : MM), D5_dredge_c118 K53 Q x1 x3 x5 s0 M → A5_dredge G Q 118 [(0, .ref (gA G 62)), (1, .int x1), (3, .int x3), (5, .int x5)] [.int s0] M := by
  intro x1 x3 x5 s0 M h
  unfold D5_dredge_c118 at h
  refine a_istore (i := 4) (L' := [(4, .int _), (0, .ref _), (1, .int _), (3, .int _), (5, .int _)]) dX5_dredge_118 (by decide) rfl ?_
  refine a_iinc (L' := [(5, .int _), (4, .int _), (0, .ref _), (1, .int _), (3, .int _)]) dX5_dredge_120 4 rfl (show _ + Int32.ofInt (1 : Int) = _ + (1 : Int32) from rfl) (by decide) rfl ?_
  refine a_goto (tgt := 53) dX5_dredge_123 (by decide) ?_
  refine a_sub [2, 3, 4, 1, 0] rfl ?_
  exact hK53 _ _ _ _ _ h
set_option maxHeartbeats 4000000 in
set_option maxRecDepth 100000 in
theorem s5_dredge_c103 {G : GG} {K53 : Int32 → Int32 → Int32 → Int32 → MM → Prop} {Q : Int32 → MM → Prop} (hK53 : ∀ (x1 : Int32) (x3 : Int32) (x4 : Int32) (x5 : Int32) (M : MM), K53 x1 x3 x4 x5 M → A5_dredge G Q 53 [(0, .ref (gA G 62)), (1, .int x1), (3, .int x3), (4, .int x4), (5, .int x5)] [] M) : ∀ (x1 : Int32) (x4 : Int32) (x5 : Int32) (x6 : Int32) (s0 : Int32) (M : MM), D5_dredge_c103 K53 Q x1 x4 x5 x6 s0 M → A5_dredge G Q 103 [(0, .ref (gA G 62)), (1, .int x1), (4, .int x4), (5, .int x5), (6, .int x6)] [.int s0] M := by
  intro x1 x4 x5 x6 s0 M h
  unfold D5_dredge_c103 at h
  refine a_istore_n (i := 3) (L' := [(3, .int _), (0, .ref _), (1, .int _), (4, .int _), (5, .int _), (6, .int _)]) dX5_dredge_103 rfl (by decide) rfl ?_
  refine a_iload dX5_dredge_104 5 rfl ?_
  refine a_iload dX5_dredge_106 3 rfl ?_
  refine a_icmp_le (tgt := 116) dX5_dredge_108 (by decide) (fun c => ?_) (fun c => ?_)
  · have h := h.1 c
    refine a_iload dX5_dredge_116 3 rfl ?_
    refine a_sub [1, 2, 0, 4] rfl ?_
    exact s5_dredge_c118 hK53 _ _ _ _ _ h
  · have h := h.2 c
    refine a_iload dX5_dredge_111 5 rfl ?_
    refine a_goto (tgt := 118) dX5_dredge_113 (by decide) ?_
    refine a_sub [1, 2, 0, 4] rfl ?_
    exact s5_dredge_c118 hK53 _ _ _ _ _ h
set_option maxHeartbeats 4000000 in
set_option maxRecDepth 100000 in
theorem s5_dredge_c53 {G : GG} {Q : Int32 → MM → Prop} : ∀ (n : Nat) (x1 : Int32) (x3 : Int32) (x4 : Int32) (x5 : Int32) (M : MM), D5_dredge_c53 Q n x1 x3 x4 x5 M → A5_dredge G Q 53 [(0, .ref (gA G 62)), (1, .int x1), (3, .int x3), (4, .int x4), (5, .int x5)] [] M := by
  intro n
  induction n with
  | zero => intro x1 x3 x4 x5 M h; exact h.elim
  | succ n ih =>
    intro x1 x3 x4 x5 M h
    unfold D5_dredge_c53 at h
    refine a_iload dX5_dredge_53 4 rfl ?_
    refine a_aload_n dX5_dredge_55 0 rfl ?_
    refine a_get3 dX5_dredge_56 0 (by decide) (tbc _ kF_RX5_77) (fun w h => tbc _ (uW3 w h)) rfl ob_62 rfl ?_
    refine a_icmp_ge (tgt := 126) dX5_dredge_59 (by decide) (fun c => ?_) (fun c => ?_)
    · have h := h.1 c
      refine a_iload_n dX5_dredge_126 2 rfl ?_
      exact a_iret dX5_dredge_127 ⟨_, rfl, h⟩
    · have h := h.2 c
      refine a_aload_n dX5_dredge_62 0 rfl ?_
      refine a_get3 dX5_dredge_63 5 (by decide) (tbc _ kF_RX5_22) (fun w h => tbc _ (uW3 w h)) rfl ob_62 rfl ?_
      refine a_iload dX5_dredge_66 4 rfl ?_
      refine a_iconst (v := 1) dX5_dredge_68 (by decide) ?_
      refine a_iast dX5_dredge_69 h.1 ?_
      have h := h.2
      refine a_aload_n dX5_dredge_70 0 rfl ?_
      refine a_iload_n dX5_dredge_71 1 rfl ?_
      refine a_callVv (n := 1) [.int _] (C := RX5) (ci := 3) (qc := (RX5, TX5, 40)) (fsF := fl3 G _) ob_62.1 (fun _ => en3 ob_62.2) rfl rfl dX5_dredge_72 (s5_goHours h) (gV tbc kM_RX5_200_X5_goHours kI_X5_goHours kS_X5_goHours kN_RX5 kC_X5_goHours) rfl (by decide +kernel) ⟨Nat.le_of_ble_eq_true rfl, Nat.le_of_ble_eq_true rfl⟩ rfl rfl (Nat.le_of_ble_eq_true rfl) ⟨Nat.le_refl 0, Nat.le_refl 0⟩ (fun M h => ?_)
      refine a_aload_n dX5_dredge_75 0 rfl ?_
      refine a_get3 dX5_dredge_76 6 (by decide) (tbc _ kF_RX5_131) (fun w h => tbc _ (uW3 w h)) rfl ob_62 rfl ?_
      refine a_aload_n dX5_dredge_79 0 rfl ?_
      refine a_get3 dX5_dredge_80 7 (by decide) (tbc _ kF_RX5_137) (fun w h => tbc _ (uW3 w h)) rfl ob_62 rfl ?_
      refine a_isub dX5_dredge_83 ?_
      refine a_istore (i := 6) (L' := [(6, .int _), (0, .ref _), (1, .int _), (3, .int _), (4, .int _), (5, .int _)]) dX5_dredge_84 (by decide) rfl ?_
      refine a_aload_n dX5_dredge_86 1 rfl ?_
      refine a_callVv (n := 0) [] (C := RX5) (ci := 3) (qc := (RX5, TX5, 40)) (fsF := fl3 G _) ob_62.1 (fun _ => en3 ob_62.2) rfl rfl dX5_dredge_87 (s5_again h) (gV tbc kM_RX5_215_X5_again kI_X5_again kS_X5_again kN_RX5 kC_X5_again) rfl (by decide +kernel) ⟨Nat.le_of_ble_eq_true rfl, Nat.le_of_ble_eq_true rfl⟩ rfl rfl (Nat.le_of_ble_eq_true rfl) ⟨Nat.le_refl 0, Nat.le_refl 0⟩ (fun M h => ?_)
      refine a_iload dX5_dredge_90 0 rfl ?_
      refine a_iload dX5_dredge_92 4 rfl ?_
      refine a_icmp_le (tgt := 102) dX5_dredge_94 (by decide) (fun c => ?_) (fun c => ?_)
      · have h := h.1 c
        refine a_iload_n dX5_dredge_102 3 rfl ?_
        refine a_sub [1, 2, 4, 5, 0] rfl ?_
        exact s5_dredge_c103 ih _ _ _ _ _ _ h
      · have h := h.2 c
        refine a_iload dX5_dredge_97 5 rfl ?_
        refine a_goto (tgt := 103) dX5_dredge_99 (by decide) ?_
        refine a_sub [1, 2, 4, 5, 0] rfl ?_
        exact s5_dredge_c103 ih _ _ _ _ _ _ h
set_option maxHeartbeats 4000000 in
set_option maxRecDepth 100000 in
theorem s5_dredge {G : GG} {x1 : Int32} {M : MM} {Q : Int32 → MM → Prop} (h : D5_dredge x1 M Q) : CM G yX5_dredge (WY yX5_dredge cX5_dredge 7 (some .int)) 5 111 [.ref (gA G 62), .int x1] M (qI Q) := by
  refine CM.of (cc := cX5_dredge) (nL := 7) (ret := (some .int)) (own := RX5) (by decide +kernel) rfl rfl (Nat.le_of_ble_eq_true rfl) ?_
  show A5_dredge G Q 0 [(0, .ref (gA G 62)), (1, .int x1)] [] M
  unfold D5_dredge at h
  refine a_aload_n dX5_dredge_0 0 rfl ?_
  refine a_iconst (v := 0) dX5_dredge_1 (by decide) ?_
  refine a_put3 dX5_dredge_2 9 (by decide) (tbc _ kF_RX5_73) (fun w h => tbc _ (uW3 w h)) rfl rfl rfl rfl ob_62 fs3_9 ?_
  refine a_iload_n dX5_dredge_5 1 rfl ?_
  refine a_iconst (v := 0) dX5_dredge_6 (by decide) ?_
  refine a_bipush (v := 60) dX5_dredge_7 (by decide) ?_
  refine a_callSi (n := 3) [.int _, .int _, .int _] dX5_dredge_9 (s5_wrongNumber h) (gS tbc kM_RX5_244_X5_wrongNumber kT_X5_wrongNumber kN_RX5 kC_X5_wrongNumber) rfl (by decide +kernel) ⟨Nat.le_of_ble_eq_true rfl, Nat.le_of_ble_eq_true rfl⟩ rfl rfl (Nat.le_of_ble_eq_true rfl) ⟨Nat.le_refl 0, Nat.le_refl 0⟩ (fun r M h => ?_)
  refine a_istore_n (i := 2) (L' := [(2, .int _), (0, .ref _), (1, .int _)]) dX5_dredge_12 rfl (by decide) rfl ?_
  refine a_iload_n dX5_dredge_13 0 rfl ?_
  refine a_if_ge (tgt := 23) dX5_dredge_14 (by decide) (fun c => ?_) (fun c => ?_)
  · have h := h.1 c
    refine a_bipush (v := -9) dX5_dredge_23 (by decide) ?_
    refine a_istore_n (i := 3) (L' := [(3, .int _), (2, .int _), (0, .ref _), (1, .int _)]) dX5_dredge_25 rfl (by decide) rfl ?_
    refine a_aload_n dX5_dredge_26 2 rfl ?_
    refine a_callVv (n := 0) [] (C := RX5) (ci := 3) (qc := (RX5, TX5, 40)) (fsF := fl3 G _) ob_62.1 (fun _ => en3 ob_62.2) rfl rfl dX5_dredge_27 (s5_think h) (gV tbc kM_RX5_209_X5_think kI_X5_think kS_X5_think kN_RX5 kC_X5_think) rfl (by decide +kernel) ⟨Nat.le_of_ble_eq_true rfl, Nat.le_of_ble_eq_true rfl⟩ rfl rfl (Nat.le_of_ble_eq_true rfl) ⟨Nat.le_refl 0, Nat.le_refl 0⟩ (fun M h => ?_)
    refine a_aload_n dX5_dredge_30 2 rfl ?_
    refine a_iload_n dX5_dredge_31 3 rfl ?_
    refine a_callVv (n := 1) [.int _] (C := RX5) (ci := 3) (qc := (RX5, TX5, 40)) (fsF := fl3 G _) ob_62.1 (fun _ => en3 ob_62.2) rfl rfl dX5_dredge_32 (s5_goHours h) (gV tbc kM_RX5_200_X5_goHours kI_X5_goHours kS_X5_goHours kN_RX5 kC_X5_goHours) rfl (by decide +kernel) ⟨Nat.le_of_ble_eq_true rfl, Nat.le_of_ble_eq_true rfl⟩ rfl rfl (Nat.le_of_ble_eq_true rfl) ⟨Nat.le_refl 0, Nat.le_refl 0⟩ (fun M h => ?_)
    refine a_aload_n dX5_dredge_35 2 rfl ?_
    refine a_get3 dX5_dredge_36 6 (by decide) (tbc _ kF_RX5_131) (fun w h => tbc _ (uW3 w h)) rfl ob_62 rfl ?_
    refine a_aload_n dX5_dredge_39 2 rfl ?_
    refine a_get3 dX5_dredge_40 7 (by decide) (tbc _ kF_RX5_137) (fun w h => tbc _ (uW3 w h)) rfl ob_62 rfl ?_
    refine a_isub dX5_dredge_43 ?_
    refine a_istore (i := 4) (L' := [(4, .int _), (3, .int _), (2, .int _), (0, .ref _), (1, .int _)]) dX5_dredge_44 (by decide) rfl ?_
    refine a_aload_n dX5_dredge_46 3 rfl ?_
    refine a_callVv (n := 0) [] (C := RX5) (ci := 3) (qc := (RX5, TX5, 40)) (fsF := fl3 G _) ob_62.1 (fun _ => en3 ob_62.2) rfl rfl dX5_dredge_47 (s5_again h) (gV tbc kM_RX5_215_X5_again kI_X5_again kS_X5_again kN_RX5 kC_X5_again) rfl (by decide +kernel) ⟨Nat.le_of_ble_eq_true rfl, Nat.le_of_ble_eq_true rfl⟩ rfl rfl (Nat.le_of_ble_eq_true rfl) ⟨Nat.le_refl 0, Nat.le_refl 0⟩ (fun M h => ?_)
    refine a_iconst (v := 0) dX5_dredge_50 (by decide) ?_
    refine a_istore (i := 5) (L' := [(5, .int _), (4, .int _), (3, .int _), (2, .int _), (0, .ref _), (1, .int _)]) dX5_dredge_51 (by decide) rfl ?_
    refine a_sub [4, 5, 2, 1, 0] rfl ?_
    exact s5_dredge_c53 _ _ _ _ _ _ h
  · have h := h.2 c
    refine a_aload_n dX5_dredge_17 1 rfl ?_
    refine a_iload_n dX5_dredge_18 0 rfl ?_
    refine a_callVi (n := 1) [.int _] (C := RX5) (ci := 3) (qc := (RX5, TX5, 40)) (fsF := fl3 G _) ob_62.1 (fun _ => en3 ob_62.2) rfl rfl dX5_dredge_19 (s5_refuse h) (gV tbc kM_RX5_149_X5_refuse kI_X5_refuse kS_X5_refuse kN_RX5 kC_X5_refuse) rfl (by decide +kernel) ⟨Nat.le_of_ble_eq_true rfl, Nat.le_of_ble_eq_true rfl⟩ rfl rfl (Nat.le_of_ble_eq_true rfl) ⟨Nat.le_refl 0, Nat.le_refl 0⟩ (fun r M h => ?_)
    exact a_iret dX5_dredge_22 ⟨_, rfl, h⟩

/-! X5_layDry -/
theorem dX5_layDry_0 : decode cX5_layDry 0 = .ok (.iconst 0, 1) := by decide +kernel
theorem dX5_layDry_1 : decode cX5_layDry 1 = .ok (.istore_n 1, 1) := by decide +kernel
theorem dX5_layDry_2 : decode cX5_layDry 2 = .ok (.iload_n 1, 1) := by decide +kernel
theorem dX5_layDry_3 : decode cX5_layDry 3 = .ok (.bipush 25, 2) := by decide +kernel
theorem dX5_layDry_5 : decode cX5_layDry 5 = .ok (.if_icmp .ge 16, 3) := by decide +kernel
theorem dX5_layDry_8 : decode cX5_layDry 8 = .ok (.aload_n 0, 1) := by decide +kernel
theorem dX5_layDry_9 : decode cX5_layDry 9 = .ok (.getfield 58, 3) := by decide +kernel
theorem dX5_layDry_12 : decode cX5_layDry 12 = .ok (.iload_n 1, 1) := by decide +kernel
theorem dX5_layDry_13 : decode cX5_layDry 13 = .ok (.iconst 0, 1) := by decide +kernel
theorem dX5_layDry_14 : decode cX5_layDry 14 = .ok (.iastore, 1) := by decide +kernel
theorem dX5_layDry_15 : decode cX5_layDry 15 = .ok (.iinc 1 1, 3) := by decide +kernel
theorem dX5_layDry_18 : decode cX5_layDry 18 = .ok (.goto (-16), 3) := by decide +kernel
theorem dX5_layDry_21 : decode cX5_layDry 21 = .ok (.aload_n 0, 1) := by decide +kernel
theorem dX5_layDry_22 : decode cX5_layDry 22 = .ok (.invokevirtual 209, 3) := by decide +kernel
theorem dX5_layDry_25 : decode cX5_layDry 25 = .ok (.iconst 1, 1) := by decide +kernel
theorem dX5_layDry_26 : decode cX5_layDry 26 = .ok (.istore_n 1, 1) := by decide +kernel
theorem dX5_layDry_27 : decode cX5_layDry 27 = .ok (.iload_n 1, 1) := by decide +kernel
theorem dX5_layDry_28 : decode cX5_layDry 28 = .ok (.bipush 60, 2) := by decide +kernel
theorem dX5_layDry_30 : decode cX5_layDry 30 = .ok (.if_icmp .gt 55, 3) := by decide +kernel
theorem dX5_layDry_33 : decode cX5_layDry 33 = .ok (.aload_n 0, 1) := by decide +kernel
theorem dX5_layDry_34 : decode cX5_layDry 34 = .ok (.iconst 0, 1) := by decide +kernel
theorem dX5_layDry_35 : decode cX5_layDry 35 = .ok (.invokevirtual 146, 3) := by decide +kernel
theorem dX5_layDry_38 : decode cX5_layDry 38 = .ok (.aload_n 0, 1) := by decide +kernel
theorem dX5_layDry_39 : decode cX5_layDry 39 = .ok (.invokevirtual 257, 3) := by decide +kernel
theorem dX5_layDry_42 : decode cX5_layDry 42 = .ok (.istore_n 2, 1) := by decide +kernel
theorem dX5_layDry_43 : decode cX5_layDry 43 = .ok (.iconst 0, 1) := by decide +kernel
theorem dX5_layDry_44 : decode cX5_layDry 44 = .ok (.istore_n 3, 1) := by decide +kernel
theorem dX5_layDry_45 : decode cX5_layDry 45 = .ok (.iload_n 3, 1) := by decide +kernel
theorem dX5_layDry_46 : decode cX5_layDry 46 = .ok (.bipush 25, 2) := by decide +kernel
theorem dX5_layDry_48 : decode cX5_layDry 48 = .ok (.if_icmp .ge 31, 3) := by decide +kernel
theorem dX5_layDry_51 : decode cX5_layDry 51 = .ok (.aload_n 0, 1) := by decide +kernel
theorem dX5_layDry_52 : decode cX5_layDry 52 = .ok (.getfield 58, 3) := by decide +kernel
theorem dX5_layDry_55 : decode cX5_layDry 55 = .ok (.iload_n 3, 1) := by decide +kernel
theorem dX5_layDry_56 : decode cX5_layDry 56 = .ok (.dup2, 1) := by decide +kernel
theorem dX5_layDry_57 : decode cX5_layDry 57 = .ok (.iaload, 1) := by decide +kernel
theorem dX5_layDry_58 : decode cX5_layDry 58 = .ok (.iload_n 2, 1) := by decide +kernel
theorem dX5_layDry_59 : decode cX5_layDry 59 = .ok (.iload_n 3, 1) := by decide +kernel
theorem dX5_layDry_60 : decode cX5_layDry 60 = .ok (.invokestatic 93, 3) := by decide +kernel
theorem dX5_layDry_63 : decode cX5_layDry 63 = .ok (.ifCond .eq 7, 3) := by decide +kernel
theorem dX5_layDry_66 : decode cX5_layDry 66 = .ok (.iconst 0, 1) := by decide +kernel
theorem dX5_layDry_67 : decode cX5_layDry 67 = .ok (.goto 4, 3) := by decide +kernel
theorem dX5_layDry_70 : decode cX5_layDry 70 = .ok (.iconst 1, 1) := by decide +kernel
theorem dX5_layDry_71 : decode cX5_layDry 71 = .ok (.iadd, 1) := by decide +kernel
theorem dX5_layDry_72 : decode cX5_layDry 72 = .ok (.iastore, 1) := by decide +kernel
theorem dX5_layDry_73 : decode cX5_layDry 73 = .ok (.iinc 3 1, 3) := by decide +kernel
theorem dX5_layDry_76 : decode cX5_layDry 76 = .ok (.goto (-31), 3) := by decide +kernel
theorem dX5_layDry_79 : decode cX5_layDry 79 = .ok (.iinc 1 1, 3) := by decide +kernel
theorem dX5_layDry_82 : decode cX5_layDry 82 = .ok (.goto (-55), 3) := by decide +kernel
theorem dX5_layDry_85 : decode cX5_layDry 85 = .ok (.aload_n 0, 1) := by decide +kernel
theorem dX5_layDry_86 : decode cX5_layDry 86 = .ok (.invokevirtual 215, 3) := by decide +kernel
theorem dX5_layDry_89 : decode cX5_layDry 89 = .ok (.return_, 1) := by decide +kernel
abbrev A5_layDry (G : GG) (Q : MM → Prop) := AW G E0 (MZ G (qV Q)) (WY yX5_layDry cX5_layDry 4 none) RX5 cX5_layDry 4 none ({ frames := 4, cells := 0, slots := 0, locals := 89 } : Room) 0 0
def D5_layDry_c71 (K45 : Int32 → Int32 → Int32 → MM → Prop) (K27 : Int32 → MM → Prop) (Q : MM → Prop) (x1 : Int32) (x2 : Int32) (x3 : Int32) (s0 : Int32) (s1 : Int32) (s2 : Int32) (s3 : Nat) (M : MM) : Prop := ib s3 s2 ∧ (fun M14 : MM => (fun v15 : Int32 => K45 x1 x2 v15 M14) (x3 + (1 : Int32))) (up M s3 (ix s2) (s1 + s0))
def D5_layDry_c79 (K27 : Int32 → MM → Prop) (Q : MM → Prop) (x1 : Int32) (M : MM) : Prop := (fun v13 : Int32 => K27 v13 M) (x1 + (1 : Int32))
def D5_layDry_c45 (K27 : Int32 → MM → Prop) (Q : MM → Prop) : Nat → Int32 → Int32 → Int32 → MM → Prop
  | 0, _, _, _, _ => False
  | n + 1, x1, x2, x3, M => (((25 : Int32) ≤ x3 → D5_layDry_c79 K27 Q x1 M) ∧ (¬ (25 : Int32) ≤ x3 → ib 79 x3 ∧ D5_hasBit x2 x3 M (fun (r11 : Int32) (M12 : MM) => ((r11 = 0 → D5_layDry_c71 (D5_layDry_c45 K27 Q n) K27 Q x1 x2 x3 (1 : Int32) (M 79 (ix x3)) x3 79 M12) ∧ (¬ r11 = 0 → D5_layDry_c71 (D5_layDry_c45 K27 Q n) K27 Q x1 x2 x3 (0 : Int32) (M 79 (ix x3)) x3 79 M12)))))
def D5_layDry_c85 (Q : MM → Prop) (M : MM) : Prop := D5_again M (fun (M10 : MM) => Q M10)
def D5_layDry_c27 (Q : MM → Prop) : Nat → Int32 → MM → Prop
  | 0, _, _ => False
  | n + 1, x1, M => (((60 : Int32) < x1 → D5_layDry_c85 Q M) ∧ (¬ (60 : Int32) < x1 → D5_hourBy (0 : Int32) M (fun (M6 : MM) => D5_wetNow M6 (fun (r7 : Int32) (M8 : MM) => D5_layDry_c45 (D5_layDry_c27 Q n) Q FU x1 r7 (0 : Int32) M8))))
def D5_layDry_c21 (Q : MM → Prop) (M : MM) : Prop := D5_think M (fun (M4 : MM) => D5_layDry_c27 Q FU (1 : Int32) M4)
def D5_layDry_c2 (Q : MM → Prop) : Nat → Int32 → MM → Prop
  | 0, _, _ => False
  | n + 1, x1, M => (((25 : Int32) ≤ x1 → D5_layDry_c21 Q M) ∧ (¬ (25 : Int32) ≤ x1 → ib 79 x1 ∧ (fun M1 : MM => (fun v2 : Int32 => D5_layDry_c2 Q n v2 M1) (x1 + (1 : Int32))) (up M 79 (ix x1) (0 : Int32))))
def D5_layDry (M : MM) (Q : MM → Prop) : Prop := D5_layDry_c2 Q FU (0 : Int32) M
set_option maxHeartbeats 4000000 in
set_option maxRecDepth 100000 in
theorem s5_layDry_c71 {G : GG} {K45 : Int32 → Int32 → Int32 → MM → Prop} {K27 : Int32 → MM → Prop} {Q : MM → Prop} (hK45 : ∀ (x1 : Int32) (x2 : Int32) (x3 : Int32) (M : MM), K45 x1 x2 x3 M → A5_layDry G Q 45 [(0, .ref (gA G 62)), (1, .int x1), (2, .int x2), (3, .int x3)] [] M) (hK27 : ∀ (x1 : Int32) (M : MM), K27 x1 M → A5_layDry G Q 27 [(0, .ref (gA G 62)), (1, .int x1)] [] M) : ∀ (x1 : Int32) (x2 : Int32) (x3 : Int32) (s0 : Int32) (s1 : Int32) (s2 : Int32) (s3 : Nat) (M : MM), D5_layDry_c71 K45 K27 Q x1 x2 x3 s0 s1 s2 s3 M → A5_layDry G Q 71 [(0, .ref (gA G 62)), (1, .int x1), (2, .int x2), (3, .int x3)] [.int s0, .int s1, .int s2, .ref (gA G s3)] M := by
  intro x1 x2 x3 s0 s1 s2 s3 M h
  unfold D5_layDry_c71 at h
  refine a_iadd dX5_layDry_71 ?_
  refine a_iast dX5_layDry_72 h.1 ?_
  have h := h.2
  refine a_iinc (L' := [(3, .int _), (0, .ref _), (1, .int _), (2, .int _)]) dX5_layDry_73 3 rfl (show _ + Int32.ofInt (1 : Int) = _ + (1 : Int32) from rfl) (by decide) rfl ?_
  refine a_goto (tgt := 45) dX5_layDry_76 (by decide) ?_
  refine a_sub [1, 2, 3, 0] rfl ?_
  exact hK45 _ _ _ _ h
set_option maxHeartbeats 4000000 in
set_option maxRecDepth 100000 in
theorem s5_layDry_c79 {G : GG} {K27 : Int32 → MM → Prop} {Q : MM → Prop} (hK27 : ∀ (x1 : Int32) (M : MM), K27 x1 M → A5_layDry G Q 27 [(0, .ref (gA G 62)), (1, .int x1)] [] M) : ∀ (x1 : Int32) (M : MM), D5_layDry_c79 K27 Q x1 M → A5_layDry G Q 79 [(0, .ref (gA G 62)), (1, .int x1)] [] M := by
  intro x1 M h
  unfold D5_layDry_c79 at h
  refine a_iinc (L' := [(1, .int _), (0, .ref _)]) dX5_layDry_79 1 rfl (show _ + Int32.ofInt (1 : Int) = _ + (1 : Int32) from rfl) (by decide) rfl ?_
  refine a_goto (tgt := 27) dX5_layDry_82 (by decide) ?_
  refine a_sub [1, 0] rfl ?_
  exact hK27 _ _ h
set_option maxHeartbeats 4000000 in
set_option maxRecDepth 100000 in
theorem s5_layDry_c45 {G : GG} {K27 : Int32 → MM → Prop} {Q : MM → Prop} (hK27 : ∀ (x1 : Int32) (M : MM), K27 x1 M → A5_layDry G Q 27 [(0, .ref (gA G 62)), (1, .int x1)] [] M) : ∀ (n : Nat) (x1 : Int32) (x2 : Int32) (x3 : Int32) (M : MM), D5_layDry_c45 K27 Q n x1 x2 x3 M → A5_layDry G Q 45 [(0, .ref (gA G 62)), (1, .int x1), (2, .int x2), (3, .int x3)] [] M := by
  intro n
  induction n with
  | zero => intro x1 x2 x3 M h; exact h.elim
  | succ n ih =>
    intro x1 x2 x3 M h
    unfold D5_layDry_c45 at h
    refine a_iload_n dX5_layDry_45 3 rfl ?_
    refine a_bipush (v := 25) dX5_layDry_46 (by decide) ?_
    refine a_icmp_ge (tgt := 79) dX5_layDry_48 (by decide) (fun c => ?_) (fun c => ?_)
    · have h := h.1 c
      refine a_sub [0, 1] rfl ?_
      exact s5_layDry_c79 hK27 _ _ h
    · have h := h.2 c
      refine a_aload_n dX5_layDry_51 0 rfl ?_
      refine a_get3 dX5_layDry_52 33 (by decide) (tbc _ kF_RX5_58) (fun w h => tbc _ (uW3 w h)) rfl ob_62 rfl ?_
      refine a_iload_n dX5_layDry_55 3 rfl ?_
      refine a_dup2 dX5_layDry_56 rfl rfl ?_
      refine a_iald dX5_layDry_57 h.1 ?_
      have h := h.2
      refine a_iload_n dX5_layDry_58 2 rfl ?_
      refine a_iload_n dX5_layDry_59 3 rfl ?_
      refine a_callSi (n := 2) [.int _, .int _] dX5_layDry_60 (s5_hasBit h) (gS tbc kM_RX5_93_X5_hasBit kT_X5_hasBit kN_RX5 kC_X5_hasBit) rfl (by decide +kernel) ⟨Nat.le_of_ble_eq_true rfl, Nat.le_of_ble_eq_true rfl⟩ rfl rfl (Nat.le_of_ble_eq_true rfl) ⟨Nat.le_refl 0, Nat.le_refl 0⟩ (fun r M h => ?_)
      refine a_if_eq (tgt := 70) dX5_layDry_63 (by decide) (fun c => ?_) (fun c => ?_)
      · have h := h.1 c
        refine a_iconst (v := 1) dX5_layDry_70 (by decide) ?_
        refine a_sub [0, 1, 2, 3] rfl ?_
        exact s5_layDry_c71 ih hK27 _ _ _ _ _ _ _ _ h
      · have h := h.2 c
        refine a_iconst (v := 0) dX5_layDry_66 (by decide) ?_
        refine a_goto (tgt := 71) dX5_layDry_67 (by decide) ?_
        refine a_sub [0, 1, 2, 3] rfl ?_
        exact s5_layDry_c71 ih hK27 _ _ _ _ _ _ _ _ h
set_option maxHeartbeats 4000000 in
set_option maxRecDepth 100000 in
theorem s5_layDry_c85 {G : GG} {Q : MM → Prop} : ∀  (M : MM), D5_layDry_c85 Q M → A5_layDry G Q 85 [(0, .ref (gA G 62))] [] M := by
  intro  M h
  unfold D5_layDry_c85 at h
  refine a_aload_n dX5_layDry_85 0 rfl ?_
  refine a_callVv (n := 0) [] (C := RX5) (ci := 3) (qc := (RX5, TX5, 40)) (fsF := fl3 G _) ob_62.1 (fun _ => en3 ob_62.2) rfl rfl dX5_layDry_86 (s5_again h) (gV tbc kM_RX5_215_X5_again kI_X5_again kS_X5_again kN_RX5 kC_X5_again) rfl (by decide +kernel) ⟨Nat.le_of_ble_eq_true rfl, Nat.le_of_ble_eq_true rfl⟩ rfl rfl (Nat.le_of_ble_eq_true rfl) ⟨Nat.le_refl 0, Nat.le_refl 0⟩ (fun M h => ?_)
  exact a_vret dX5_layDry_89 ⟨rfl, h⟩
set_option maxHeartbeats 4000000 in
set_option maxRecDepth 100000 in
theorem s5_layDry_c27 {G : GG} {Q : MM → Prop} : ∀ (n : Nat) (x1 : Int32) (M : MM), D5_layDry_c27 Q n x1 M → A5_layDry G Q 27 [(0, .ref (gA G 62)), (1, .int x1)] [] M := by
  intro n
  induction n with
  | zero => intro x1 M h; exact h.elim
  | succ n ih =>
    intro x1 M h
    unfold D5_layDry_c27 at h
    refine a_iload_n dX5_layDry_27 1 rfl ?_
    refine a_bipush (v := 60) dX5_layDry_28 (by decide) ?_
    refine a_icmp_gt (tgt := 85) dX5_layDry_30 (by decide) (fun c => ?_) (fun c => ?_)
    · have h := h.1 c
      refine a_sub [0] rfl ?_
      exact s5_layDry_c85 _ h
    · have h := h.2 c
      refine a_aload_n dX5_layDry_33 0 rfl ?_
      refine a_iconst (v := 0) dX5_layDry_34 (by decide) ?_
      refine a_callVv (n := 1) [.int _] (C := RX5) (ci := 3) (qc := (RX5, TX5, 40)) (fsF := fl3 G _) ob_62.1 (fun _ => en3 ob_62.2) rfl rfl dX5_layDry_35 (s5_hourBy h) (gV tbc kM_RX5_146_X5_hourBy kI_X5_hourBy kS_X5_hourBy kN_RX5 kC_X5_hourBy) rfl (by decide +kernel) ⟨Nat.le_of_ble_eq_true rfl, Nat.le_of_ble_eq_true rfl⟩ rfl rfl (Nat.le_of_ble_eq_true rfl) ⟨Nat.le_refl 0, Nat.le_refl 0⟩ (fun M h => ?_)
      refine a_aload_n dX5_layDry_38 0 rfl ?_
      refine a_callVi (n := 0) [] (C := RX5) (ci := 3) (qc := (RX5, TX5, 40)) (fsF := fl3 G _) ob_62.1 (fun _ => en3 ob_62.2) rfl rfl dX5_layDry_39 (s5_wetNow h) (gV tbc kM_RX5_257_X5_wetNow kI_X5_wetNow kS_X5_wetNow kN_RX5 kC_X5_wetNow) rfl (by decide +kernel) ⟨Nat.le_of_ble_eq_true rfl, Nat.le_of_ble_eq_true rfl⟩ rfl rfl (Nat.le_of_ble_eq_true rfl) ⟨Nat.le_refl 0, Nat.le_refl 0⟩ (fun r M h => ?_)
      refine a_istore_n (i := 2) (L' := [(2, .int _), (0, .ref _), (1, .int _)]) dX5_layDry_42 rfl (by decide) rfl ?_
      refine a_iconst (v := 0) dX5_layDry_43 (by decide) ?_
      refine a_istore_n (i := 3) (L' := [(3, .int _), (2, .int _), (0, .ref _), (1, .int _)]) dX5_layDry_44 rfl (by decide) rfl ?_
      refine a_sub [2, 3, 1, 0] rfl ?_
      exact s5_layDry_c45 ih _ _ _ _ _ h
set_option maxHeartbeats 4000000 in
set_option maxRecDepth 100000 in
theorem s5_layDry_c21 {G : GG} {Q : MM → Prop} : ∀  (M : MM), D5_layDry_c21 Q M → A5_layDry G Q 21 [(0, .ref (gA G 62))] [] M := by
  intro  M h
  unfold D5_layDry_c21 at h
  refine a_aload_n dX5_layDry_21 0 rfl ?_
  refine a_callVv (n := 0) [] (C := RX5) (ci := 3) (qc := (RX5, TX5, 40)) (fsF := fl3 G _) ob_62.1 (fun _ => en3 ob_62.2) rfl rfl dX5_layDry_22 (s5_think h) (gV tbc kM_RX5_209_X5_think kI_X5_think kS_X5_think kN_RX5 kC_X5_think) rfl (by decide +kernel) ⟨Nat.le_of_ble_eq_true rfl, Nat.le_of_ble_eq_true rfl⟩ rfl rfl (Nat.le_of_ble_eq_true rfl) ⟨Nat.le_refl 0, Nat.le_refl 0⟩ (fun M h => ?_)
  refine a_iconst (v := 1) dX5_layDry_25 (by decide) ?_
  refine a_istore_n (i := 1) (L' := [(1, .int _), (0, .ref _)]) dX5_layDry_26 rfl (by decide) rfl ?_
  refine a_sub [1, 0] rfl ?_
  exact s5_layDry_c27 _ _ _ h
set_option maxHeartbeats 4000000 in
set_option maxRecDepth 100000 in
theorem s5_layDry_c2 {G : GG} {Q : MM → Prop} : ∀ (n : Nat) (x1 : Int32) (M : MM), D5_layDry_c2 Q n x1 M → A5_layDry G Q 2 [(0, .ref (gA G 62)), (1, .int x1)] [] M := by
  intro n
  induction n with
  | zero => intro x1 M h; exact h.elim
  | succ n ih =>
    intro x1 M h
    unfold D5_layDry_c2 at h
    refine a_iload_n dX5_layDry_2 1 rfl ?_
    refine a_bipush (v := 25) dX5_layDry_3 (by decide) ?_
    refine a_icmp_ge (tgt := 21) dX5_layDry_5 (by decide) (fun c => ?_) (fun c => ?_)
    · have h := h.1 c
      refine a_sub [0] rfl ?_
      exact s5_layDry_c21 _ h
    · have h := h.2 c
      refine a_aload_n dX5_layDry_8 0 rfl ?_
      refine a_get3 dX5_layDry_9 33 (by decide) (tbc _ kF_RX5_58) (fun w h => tbc _ (uW3 w h)) rfl ob_62 rfl ?_
      refine a_iload_n dX5_layDry_12 1 rfl ?_
      refine a_iconst (v := 0) dX5_layDry_13 (by decide) ?_
      refine a_iast dX5_layDry_14 h.1 ?_
      have h := h.2
      refine a_iinc (L' := [(1, .int _), (0, .ref _)]) dX5_layDry_15 1 rfl (show _ + Int32.ofInt (1 : Int) = _ + (1 : Int32) from rfl) (by decide) rfl ?_
      refine a_goto (tgt := 2) dX5_layDry_18 (by decide) ?_
      refine a_sub [1, 0] rfl ?_
      exact ih _ _ h
set_option maxHeartbeats 4000000 in
set_option maxRecDepth 100000 in
theorem s5_layDry {G : GG} {M : MM} {Q : MM → Prop} (h : D5_layDry M Q) : CM G yX5_layDry (WY yX5_layDry cX5_layDry 4 none) 4 89 [.ref (gA G 62)] M (qV Q) := by
  refine CM.of (cc := cX5_layDry) (nL := 4) (ret := none) (own := RX5) (by decide +kernel) rfl rfl (Nat.le_of_ble_eq_true rfl) ?_
  show A5_layDry G Q 0 [(0, .ref (gA G 62))] [] M
  unfold D5_layDry at h
  refine a_iconst (v := 0) dX5_layDry_0 (by decide) ?_
  refine a_istore_n (i := 1) (L' := [(1, .int _), (0, .ref _)]) dX5_layDry_1 rfl (by decide) rfl ?_
  refine a_sub [1, 0] rfl ?_
  exact s5_layDry_c2 _ _ _ h

/-! X5_driest -/
theorem dX5_driest_0 : decode cX5_driest 0 = .ok (.aload_n 0, 1) := by decide +kernel
theorem dX5_driest_1 : decode cX5_driest 1 = .ok (.iconst 0, 1) := by decide +kernel
theorem dX5_driest_2 : decode cX5_driest 2 = .ok (.putfield 73, 3) := by decide +kernel
theorem dX5_driest_5 : decode cX5_driest 5 = .ok (.iload_n 1, 1) := by decide +kernel
theorem dX5_driest_6 : decode cX5_driest 6 = .ok (.i2l, 1) := by decide +kernel
theorem dX5_driest_7 : decode cX5_driest 7 = .ok (.lconst 0, 1) := by decide +kernel
theorem dX5_driest_8 : decode cX5_driest 8 = .ok (.lconst 1, 1) := by decide +kernel
theorem dX5_driest_9 : decode cX5_driest 9 = .ok (.invokestatic 80, 3) := by decide +kernel
theorem dX5_driest_12 : decode cX5_driest 12 = .ok (.ifCond .ne 10, 3) := by decide +kernel
theorem dX5_driest_15 : decode cX5_driest 15 = .ok (.aload_n 0, 1) := by decide +kernel
theorem dX5_driest_16 : decode cX5_driest 16 = .ok (.bipush (-2), 2) := by decide +kernel
theorem dX5_driest_18 : decode cX5_driest 18 = .ok (.invokevirtual 149, 3) := by decide +kernel
theorem dX5_driest_21 : decode cX5_driest 21 = .ok (.ireturn, 1) := by decide +kernel
theorem dX5_driest_22 : decode cX5_driest 22 = .ok (.aload_n 0, 1) := by decide +kernel
theorem dX5_driest_23 : decode cX5_driest 23 = .ok (.invokevirtual 263, 3) := by decide +kernel
theorem dX5_driest_26 : decode cX5_driest 26 = .ok (.iconst 0, 1) := by decide +kernel
theorem dX5_driest_27 : decode cX5_driest 27 = .ok (.istore_n 2, 1) := by decide +kernel
theorem dX5_driest_28 : decode cX5_driest 28 = .ok (.iconst 1, 1) := by decide +kernel
theorem dX5_driest_29 : decode cX5_driest 29 = .ok (.istore_n 3, 1) := by decide +kernel
theorem dX5_driest_30 : decode cX5_driest 30 = .ok (.iload_n 3, 1) := by decide +kernel
theorem dX5_driest_31 : decode cX5_driest 31 = .ok (.bipush 25, 2) := by decide +kernel
theorem dX5_driest_33 : decode cX5_driest 33 = .ok (.if_icmp .ge 30, 3) := by decide +kernel
theorem dX5_driest_36 : decode cX5_driest 36 = .ok (.aload_n 0, 1) := by decide +kernel
theorem dX5_driest_37 : decode cX5_driest 37 = .ok (.getfield 58, 3) := by decide +kernel
theorem dX5_driest_40 : decode cX5_driest 40 = .ok (.iload_n 3, 1) := by decide +kernel
theorem dX5_driest_41 : decode cX5_driest 41 = .ok (.iaload, 1) := by decide +kernel
theorem dX5_driest_42 : decode cX5_driest 42 = .ok (.aload_n 0, 1) := by decide +kernel
theorem dX5_driest_43 : decode cX5_driest 43 = .ok (.getfield 58, 3) := by decide +kernel
theorem dX5_driest_46 : decode cX5_driest 46 = .ok (.iload_n 2, 1) := by decide +kernel
theorem dX5_driest_47 : decode cX5_driest 47 = .ok (.iaload, 1) := by decide +kernel
theorem dX5_driest_48 : decode cX5_driest 48 = .ok (.if_icmp .le 7, 3) := by decide +kernel
theorem dX5_driest_51 : decode cX5_driest 51 = .ok (.iload_n 3, 1) := by decide +kernel
theorem dX5_driest_52 : decode cX5_driest 52 = .ok (.goto 4, 3) := by decide +kernel
theorem dX5_driest_55 : decode cX5_driest 55 = .ok (.iload_n 2, 1) := by decide +kernel
theorem dX5_driest_56 : decode cX5_driest 56 = .ok (.istore_n 2, 1) := by decide +kernel
theorem dX5_driest_57 : decode cX5_driest 57 = .ok (.iinc 3 1, 3) := by decide +kernel
theorem dX5_driest_60 : decode cX5_driest 60 = .ok (.goto (-30), 3) := by decide +kernel
theorem dX5_driest_63 : decode cX5_driest 63 = .ok (.iload_n 1, 1) := by decide +kernel
theorem dX5_driest_64 : decode cX5_driest 64 = .ok (.ifCond .ne 7, 3) := by decide +kernel
theorem dX5_driest_67 : decode cX5_driest 67 = .ok (.iload_n 2, 1) := by decide +kernel
theorem dX5_driest_68 : decode cX5_driest 68 = .ok (.goto 9, 3) := by decide +kernel
theorem dX5_driest_71 : decode cX5_driest 71 = .ok (.aload_n 0, 1) := by decide +kernel
theorem dX5_driest_72 : decode cX5_driest 72 = .ok (.getfield 58, 3) := by decide +kernel
theorem dX5_driest_75 : decode cX5_driest 75 = .ok (.iload_n 2, 1) := by decide +kernel
theorem dX5_driest_76 : decode cX5_driest 76 = .ok (.iaload, 1) := by decide +kernel
theorem dX5_driest_77 : decode cX5_driest 77 = .ok (.ireturn, 1) := by decide +kernel
abbrev A5_driest (G : GG) (Q : Int32 → MM → Prop) := AW G E0 (MZ G (qI Q)) (WY yX5_driest cX5_driest 4 (some .int)) RX5 cX5_driest 4 (some .int) ({ frames := 5, cells := 0, slots := 0, locals := 112 } : Room) 0 0
def D5_driest_c56 (K30 : Int32 → Int32 → Int32 → MM → Prop) (Q : Int32 → MM → Prop) (x1 : Int32) (x3 : Int32) (s0 : Int32) (M : MM) : Prop := (fun v8 : Int32 => K30 x1 s0 v8 M) (x3 + (1 : Int32))
def D5_driest_c63 (Q : Int32 → MM → Prop) (x1 : Int32) (x2 : Int32) (M : MM) : Prop := ((x1 ≠ 0 → ib 79 x2 ∧ Q (M 79 (ix x2)) M) ∧ (x1 = 0 → Q x2 M))
def D5_driest_c30 (Q : Int32 → MM → Prop) : Nat → Int32 → Int32 → Int32 → MM → Prop
  | 0, _, _, _, _ => False
  | n + 1, x1, x2, x3, M => (((25 : Int32) ≤ x3 → D5_driest_c63 Q x1 x2 M) ∧ (¬ (25 : Int32) ≤ x3 → ib 79 x3 ∧ ib 79 x2 ∧ (((M 79 (ix x3)) ≤ (M 79 (ix x2)) → D5_driest_c56 (D5_driest_c30 Q n) Q x1 x3 x2 M) ∧ (¬ (M 79 (ix x3)) ≤ (M 79 (ix x2)) → D5_driest_c56 (D5_driest_c30 Q n) Q x1 x3 x3 M))))
def D5_driest (x1 : Int32) (M : MM) (Q : Int32 → MM → Prop) : Prop := (fun M1 : MM => D5_in x1.toInt64 (0 : Int64) (1 : Int64) M1 (fun (r2 : Int32) (M3 : MM) => ((r2 ≠ 0 → D5_layDry M3 (fun (M5 : MM) => D5_driest_c30 Q FU x1 (0 : Int32) (1 : Int32) M5)) ∧ (r2 = 0 → D5_refuse (-2 : Int32) M3 (fun (r6 : Int32) (M7 : MM) => Q r6 M7))))) (up M 62 9 (0 : Int32))
set_option maxHeartbeats 4000000 in
set_option maxRecDepth 100000 in
theorem s5_driest_c56 {G : GG} {K30 : Int32 → Int32 → Int32 → MM → Prop} {Q : Int32 → MM → Prop} (hK30 : ∀ (x1 : Int32) (x2 : Int32) (x3 : Int32) (M : MM), K30 x1 x2 x3 M → A5_driest G Q 30 [(0, .ref (gA G 62)), (1, .int x1), (2, .int x2), (3, .int x3)] [] M) : ∀ (x1 : Int32) (x3 : Int32) (s0 : Int32) (M : MM), D5_driest_c56 K30 Q x1 x3 s0 M → A5_driest G Q 56 [(0, .ref (gA G 62)), (1, .int x1), (3, .int x3)] [.int s0] M := by
  intro x1 x3 s0 M h
  unfold D5_driest_c56 at h
  refine a_istore_n (i := 2) (L' := [(2, .int _), (0, .ref _), (1, .int _), (3, .int _)]) dX5_driest_56 rfl (by decide) rfl ?_
  refine a_iinc (L' := [(3, .int _), (2, .int _), (0, .ref _), (1, .int _)]) dX5_driest_57 3 rfl (show _ + Int32.ofInt (1 : Int) = _ + (1 : Int32) from rfl) (by decide) rfl ?_
  refine a_goto (tgt := 30) dX5_driest_60 (by decide) ?_
  refine a_sub [2, 3, 1, 0] rfl ?_
  exact hK30 _ _ _ _ h
set_option maxHeartbeats 4000000 in
set_option maxRecDepth 100000 in
theorem s5_driest_c63 {G : GG} {Q : Int32 → MM → Prop} : ∀ (x1 : Int32) (x2 : Int32) (M : MM), D5_driest_c63 Q x1 x2 M → A5_driest G Q 63 [(0, .ref (gA G 62)), (1, .int x1), (2, .int x2)] [] M := by
  intro x1 x2 M h
  unfold D5_driest_c63 at h
  refine a_iload_n dX5_driest_63 1 rfl ?_
  refine a_if_ne (tgt := 71) dX5_driest_64 (by decide) (fun c => ?_) (fun c => ?_)
  · have h := h.1 c
    refine a_aload_n dX5_driest_71 0 rfl ?_
    refine a_get3 dX5_driest_72 33 (by decide) (tbc _ kF_RX5_58) (fun w h => tbc _ (uW3 w h)) rfl ob_62 rfl ?_
    refine a_iload_n dX5_driest_75 2 rfl ?_
    refine a_iald dX5_driest_76 h.1 ?_
    have h := h.2
    exact a_iret dX5_driest_77 ⟨_, rfl, h⟩
  · have h := h.2 c
    refine a_iload_n dX5_driest_67 2 rfl ?_
    refine a_goto (tgt := 77) dX5_driest_68 (by decide) ?_
    exact a_iret dX5_driest_77 ⟨_, rfl, h⟩
set_option maxHeartbeats 4000000 in
set_option maxRecDepth 100000 in
theorem s5_driest_c30 {G : GG} {Q : Int32 → MM → Prop} : ∀ (n : Nat) (x1 : Int32) (x2 : Int32) (x3 : Int32) (M : MM), D5_driest_c30 Q n x1 x2 x3 M → A5_driest G Q 30 [(0, .ref (gA G 62)), (1, .int x1), (2, .int x2), (3, .int x3)] [] M := by
  intro n
  induction n with
  | zero => intro x1 x2 x3 M h; exact h.elim
  | succ n ih =>
    intro x1 x2 x3 M h
    unfold D5_driest_c30 at h
    refine a_iload_n dX5_driest_30 3 rfl ?_
    refine a_bipush (v := 25) dX5_driest_31 (by decide) ?_
    refine a_icmp_ge (tgt := 63) dX5_driest_33 (by decide) (fun c => ?_) (fun c => ?_)
    · have h := h.1 c
      refine a_sub [0, 1, 2] rfl ?_
      exact s5_driest_c63 _ _ _ h
    · have h := h.2 c
      refine a_aload_n dX5_driest_36 0 rfl ?_
      refine a_get3 dX5_driest_37 33 (by decide) (tbc _ kF_RX5_58) (fun w h => tbc _ (uW3 w h)) rfl ob_62 rfl ?_
      refine a_iload_n dX5_driest_40 3 rfl ?_
      refine a_iald dX5_driest_41 h.1 ?_
      have h := h.2
      refine a_aload_n dX5_driest_42 0 rfl ?_
      refine a_get3 dX5_driest_43 33 (by decide) (tbc _ kF_RX5_58) (fun w h => tbc _ (uW3 w h)) rfl ob_62 rfl ?_
      refine a_iload_n dX5_driest_46 2 rfl ?_
      refine a_iald dX5_driest_47 h.1 ?_
      have h := h.2
      refine a_icmp_le (tgt := 55) dX5_driest_48 (by decide) (fun c => ?_) (fun c => ?_)
      · have h := h.1 c
        refine a_iload_n dX5_driest_55 2 rfl ?_
        refine a_sub [0, 1, 3] rfl ?_
        exact s5_driest_c56 ih _ _ _ _ h
      · have h := h.2 c
        refine a_iload_n dX5_driest_51 3 rfl ?_
        refine a_goto (tgt := 56) dX5_driest_52 (by decide) ?_
        refine a_sub [0, 1, 3] rfl ?_
        exact s5_driest_c56 ih _ _ _ _ h
set_option maxHeartbeats 4000000 in
set_option maxRecDepth 100000 in
theorem s5_driest {G : GG} {x1 : Int32} {M : MM} {Q : Int32 → MM → Prop} (h : D5_driest x1 M Q) : CM G yX5_driest (WY yX5_driest cX5_driest 4 (some .int)) 5 112 [.ref (gA G 62), .int x1] M (qI Q) := by
  refine CM.of (cc := cX5_driest) (nL := 4) (ret := (some .int)) (own := RX5) (by decide +kernel) rfl rfl (Nat.le_of_ble_eq_true rfl) ?_
  show A5_driest G Q 0 [(0, .ref (gA G 62)), (1, .int x1)] [] M
  unfold D5_driest at h
  refine a_aload_n dX5_driest_0 0 rfl ?_
  refine a_iconst (v := 0) dX5_driest_1 (by decide) ?_
  refine a_put3 dX5_driest_2 9 (by decide) (tbc _ kF_RX5_73) (fun w h => tbc _ (uW3 w h)) rfl rfl rfl rfl ob_62 fs3_9 ?_
  refine a_iload_n dX5_driest_5 1 rfl ?_
  refine a_i2l dX5_driest_6 ?_
  refine a_lconst (v := 0) dX5_driest_7 (by decide) ?_
  refine a_lconst (v := 1) dX5_driest_8 (by decide) ?_
  refine a_callSi (n := 3) [.long _, .long _, .long _] dX5_driest_9 (s5_in h) (gS tbc kM_RX5_80_X5_in kT_X5_in kN_RX5 kC_X5_in) rfl (by decide +kernel) ⟨Nat.le_of_ble_eq_true rfl, Nat.le_of_ble_eq_true rfl⟩ rfl rfl (Nat.le_of_ble_eq_true rfl) ⟨Nat.le_refl 0, Nat.le_refl 0⟩ (fun r M h => ?_)
  refine a_if_ne (tgt := 22) dX5_driest_12 (by decide) (fun c => ?_) (fun c => ?_)
  · have h := h.1 c
    refine a_aload_n dX5_driest_22 0 rfl ?_
    refine a_callVv (n := 0) [] (C := RX5) (ci := 3) (qc := (RX5, TX5, 40)) (fsF := fl3 G _) ob_62.1 (fun _ => en3 ob_62.2) rfl rfl dX5_driest_23 (s5_layDry h) (gV tbc kM_RX5_263_X5_layDry kI_X5_layDry kS_X5_layDry kN_RX5 kC_X5_layDry) rfl (by decide +kernel) ⟨Nat.le_of_ble_eq_true rfl, Nat.le_of_ble_eq_true rfl⟩ rfl rfl (Nat.le_of_ble_eq_true rfl) ⟨Nat.le_refl 0, Nat.le_refl 0⟩ (fun M h => ?_)
    refine a_iconst (v := 0) dX5_driest_26 (by decide) ?_
    refine a_istore_n (i := 2) (L' := [(2, .int _), (0, .ref _), (1, .int _)]) dX5_driest_27 rfl (by decide) rfl ?_
    refine a_iconst (v := 1) dX5_driest_28 (by decide) ?_
    refine a_istore_n (i := 3) (L' := [(3, .int _), (2, .int _), (0, .ref _), (1, .int _)]) dX5_driest_29 rfl (by decide) rfl ?_
    refine a_sub [2, 3, 1, 0] rfl ?_
    exact s5_driest_c30 _ _ _ _ _ h
  · have h := h.2 c
    refine a_aload_n dX5_driest_15 0 rfl ?_
    refine a_bipush (v := -2) dX5_driest_16 (by decide) ?_
    refine a_callVi (n := 1) [.int _] (C := RX5) (ci := 3) (qc := (RX5, TX5, 40)) (fsF := fl3 G _) ob_62.1 (fun _ => en3 ob_62.2) rfl rfl dX5_driest_18 (s5_refuse h) (gV tbc kM_RX5_149_X5_refuse kI_X5_refuse kS_X5_refuse kN_RX5 kC_X5_refuse) rfl (by decide +kernel) ⟨Nat.le_of_ble_eq_true rfl, Nat.le_of_ble_eq_true rfl⟩ rfl rfl (Nat.le_of_ble_eq_true rfl) ⟨Nat.le_refl 0, Nat.le_refl 0⟩ (fun r M h => ?_)
    exact a_iret dX5_driest_21 ⟨_, rfl, h⟩

/-! X5_dry -/
theorem dX5_dry_0 : decode cX5_dry 0 = .ok (.aload_n 0, 1) := by decide +kernel
theorem dX5_dry_1 : decode cX5_dry 1 = .ok (.iconst 0, 1) := by decide +kernel
theorem dX5_dry_2 : decode cX5_dry 2 = .ok (.putfield 73, 3) := by decide +kernel
theorem dX5_dry_5 : decode cX5_dry 5 = .ok (.iload_n 1, 1) := by decide +kernel
theorem dX5_dry_6 : decode cX5_dry 6 = .ok (.invokestatic 185, 3) := by decide +kernel
theorem dX5_dry_9 : decode cX5_dry 9 = .ok (.ifCond .ne 9, 3) := by decide +kernel
theorem dX5_dry_12 : decode cX5_dry 12 = .ok (.aload_n 0, 1) := by decide +kernel
theorem dX5_dry_13 : decode cX5_dry 13 = .ok (.iconst (-1), 1) := by decide +kernel
theorem dX5_dry_14 : decode cX5_dry 14 = .ok (.invokevirtual 149, 3) := by decide +kernel
theorem dX5_dry_17 : decode cX5_dry 17 = .ok (.ireturn, 1) := by decide +kernel
theorem dX5_dry_18 : decode cX5_dry 18 = .ok (.aload_n 0, 1) := by decide +kernel
theorem dX5_dry_19 : decode cX5_dry 19 = .ok (.invokevirtual 263, 3) := by decide +kernel
theorem dX5_dry_22 : decode cX5_dry 22 = .ok (.aload_n 0, 1) := by decide +kernel
theorem dX5_dry_23 : decode cX5_dry 23 = .ok (.getfield 58, 3) := by decide +kernel
theorem dX5_dry_26 : decode cX5_dry 26 = .ok (.iload_n 1, 1) := by decide +kernel
theorem dX5_dry_27 : decode cX5_dry 27 = .ok (.iaload, 1) := by decide +kernel
theorem dX5_dry_28 : decode cX5_dry 28 = .ok (.ireturn, 1) := by decide +kernel
abbrev A5_dry (G : GG) (Q : Int32 → MM → Prop) := AW G E0 (MZ G (qI Q)) (WY yX5_dry cX5_dry 2 (some .int)) RX5 cX5_dry 2 (some .int) ({ frames := 5, cells := 0, slots := 0, locals := 112 } : Room) 0 0
def D5_dry (x1 : Int32) (M : MM) (Q : Int32 → MM → Prop) : Prop := (fun M1 : MM => D5_isCell x1 M1 (fun (r2 : Int32) (M3 : MM) => ((r2 ≠ 0 → D5_layDry M3 (fun (M5 : MM) => ib 79 x1 ∧ Q (M5 79 (ix x1)) M5)) ∧ (r2 = 0 → D5_refuse (-1 : Int32) M3 (fun (r6 : Int32) (M7 : MM) => Q r6 M7))))) (up M 62 9 (0 : Int32))
set_option maxHeartbeats 4000000 in
set_option maxRecDepth 100000 in
theorem s5_dry {G : GG} {x1 : Int32} {M : MM} {Q : Int32 → MM → Prop} (h : D5_dry x1 M Q) : CM G yX5_dry (WY yX5_dry cX5_dry 2 (some .int)) 5 112 [.ref (gA G 62), .int x1] M (qI Q) := by
  refine CM.of (cc := cX5_dry) (nL := 2) (ret := (some .int)) (own := RX5) (by decide +kernel) rfl rfl (Nat.le_of_ble_eq_true rfl) ?_
  show A5_dry G Q 0 [(0, .ref (gA G 62)), (1, .int x1)] [] M
  unfold D5_dry at h
  refine a_aload_n dX5_dry_0 0 rfl ?_
  refine a_iconst (v := 0) dX5_dry_1 (by decide) ?_
  refine a_put3 dX5_dry_2 9 (by decide) (tbc _ kF_RX5_73) (fun w h => tbc _ (uW3 w h)) rfl rfl rfl rfl ob_62 fs3_9 ?_
  refine a_iload_n dX5_dry_5 1 rfl ?_
  refine a_callSi (n := 1) [.int _] dX5_dry_6 (s5_isCell h) (gS tbc kM_RX5_185_X5_isCell kT_X5_isCell kN_RX5 kC_X5_isCell) rfl (by decide +kernel) ⟨Nat.le_of_ble_eq_true rfl, Nat.le_of_ble_eq_true rfl⟩ rfl rfl (Nat.le_of_ble_eq_true rfl) ⟨Nat.le_refl 0, Nat.le_refl 0⟩ (fun r M h => ?_)
  refine a_if_ne (tgt := 18) dX5_dry_9 (by decide) (fun c => ?_) (fun c => ?_)
  · have h := h.1 c
    refine a_aload_n dX5_dry_18 0 rfl ?_
    refine a_callVv (n := 0) [] (C := RX5) (ci := 3) (qc := (RX5, TX5, 40)) (fsF := fl3 G _) ob_62.1 (fun _ => en3 ob_62.2) rfl rfl dX5_dry_19 (s5_layDry h) (gV tbc kM_RX5_263_X5_layDry kI_X5_layDry kS_X5_layDry kN_RX5 kC_X5_layDry) rfl (by decide +kernel) ⟨Nat.le_of_ble_eq_true rfl, Nat.le_of_ble_eq_true rfl⟩ rfl rfl (Nat.le_of_ble_eq_true rfl) ⟨Nat.le_refl 0, Nat.le_refl 0⟩ (fun M h => ?_)
    refine a_aload_n dX5_dry_22 0 rfl ?_
    refine a_get3 dX5_dry_23 33 (by decide) (tbc _ kF_RX5_58) (fun w h => tbc _ (uW3 w h)) rfl ob_62 rfl ?_
    refine a_iload_n dX5_dry_26 1 rfl ?_
    refine a_iald dX5_dry_27 h.1 ?_
    have h := h.2
    exact a_iret dX5_dry_28 ⟨_, rfl, h⟩
  · have h := h.2 c
    refine a_aload_n dX5_dry_12 0 rfl ?_
    refine a_iconst (v := -1) dX5_dry_13 (by decide) ?_
    refine a_callVi (n := 1) [.int _] (C := RX5) (ci := 3) (qc := (RX5, TX5, 40)) (fsF := fl3 G _) ob_62.1 (fun _ => en3 ob_62.2) rfl rfl dX5_dry_14 (s5_refuse h) (gV tbc kM_RX5_149_X5_refuse kI_X5_refuse kS_X5_refuse kN_RX5 kC_X5_refuse) rfl (by decide +kernel) ⟨Nat.le_of_ble_eq_true rfl, Nat.le_of_ble_eq_true rfl⟩ rfl rfl (Nat.le_of_ble_eq_true rfl) ⟨Nat.le_refl 0, Nat.le_refl 0⟩ (fun r M h => ?_)
    exact a_iret dX5_dry_17 ⟨_, rfl, h⟩

/-! X5_fallOf -/
theorem dX5_fallOf_0 : decode cX5_fallOf 0 = .ok (.bipush (-9), 2) := by decide +kernel
theorem dX5_fallOf_2 : decode cX5_fallOf 2 = .ok (.istore_n 2, 1) := by decide +kernel
theorem dX5_fallOf_3 : decode cX5_fallOf 3 = .ok (.aload_n 0, 1) := by decide +kernel
theorem dX5_fallOf_4 : decode cX5_fallOf 4 = .ok (.invokevirtual 209, 3) := by decide +kernel
theorem dX5_fallOf_7 : decode cX5_fallOf 7 = .ok (.iconst 0, 1) := by decide +kernel
theorem dX5_fallOf_8 : decode cX5_fallOf 8 = .ok (.istore_n 3, 1) := by decide +kernel
theorem dX5_fallOf_9 : decode cX5_fallOf 9 = .ok (.iload_n 3, 1) := by decide +kernel
theorem dX5_fallOf_10 : decode cX5_fallOf 10 = .ok (.bipush 60, 2) := by decide +kernel
theorem dX5_fallOf_12 : decode cX5_fallOf 12 = .ok (.if_icmp .gt 35, 3) := by decide +kernel
theorem dX5_fallOf_15 : decode cX5_fallOf 15 = .ok (.iload_n 2, 1) := by decide +kernel
theorem dX5_fallOf_16 : decode cX5_fallOf 16 = .ok (.ifCond .ge 31, 3) := by decide +kernel
theorem dX5_fallOf_19 : decode cX5_fallOf 19 = .ok (.aload_n 0, 1) := by decide +kernel
theorem dX5_fallOf_20 : decode cX5_fallOf 20 = .ok (.getfield 22, 3) := by decide +kernel
theorem dX5_fallOf_23 : decode cX5_fallOf 23 = .ok (.iload_n 1, 1) := by decide +kernel
theorem dX5_fallOf_24 : decode cX5_fallOf 24 = .ok (.iaload, 1) := by decide +kernel
theorem dX5_fallOf_25 : decode cX5_fallOf 25 = .ok (.iconst 1, 1) := by decide +kernel
theorem dX5_fallOf_26 : decode cX5_fallOf 26 = .ok (.if_icmp .ne 7, 3) := by decide +kernel
theorem dX5_fallOf_29 : decode cX5_fallOf 29 = .ok (.iload_n 3, 1) := by decide +kernel
theorem dX5_fallOf_30 : decode cX5_fallOf 30 = .ok (.goto 5, 3) := by decide +kernel
theorem dX5_fallOf_33 : decode cX5_fallOf 33 = .ok (.bipush (-9), 2) := by decide +kernel
theorem dX5_fallOf_35 : decode cX5_fallOf 35 = .ok (.istore_n 2, 1) := by decide +kernel
theorem dX5_fallOf_36 : decode cX5_fallOf 36 = .ok (.aload_n 0, 1) := by decide +kernel
theorem dX5_fallOf_37 : decode cX5_fallOf 37 = .ok (.iconst 0, 1) := by decide +kernel
theorem dX5_fallOf_38 : decode cX5_fallOf 38 = .ok (.invokevirtual 146, 3) := by decide +kernel
theorem dX5_fallOf_41 : decode cX5_fallOf 41 = .ok (.iinc 3 1, 3) := by decide +kernel
theorem dX5_fallOf_44 : decode cX5_fallOf 44 = .ok (.goto (-35), 3) := by decide +kernel
theorem dX5_fallOf_47 : decode cX5_fallOf 47 = .ok (.aload_n 0, 1) := by decide +kernel
theorem dX5_fallOf_48 : decode cX5_fallOf 48 = .ok (.invokevirtual 215, 3) := by decide +kernel
theorem dX5_fallOf_51 : decode cX5_fallOf 51 = .ok (.iload_n 2, 1) := by decide +kernel
theorem dX5_fallOf_52 : decode cX5_fallOf 52 = .ok (.ireturn, 1) := by decide +kernel
abbrev A5_fallOf (G : GG) (Q : Int32 → MM → Prop) := AW G E0 (MZ G (qI Q)) (WY yX5_fallOf cX5_fallOf 4 (some .int)) RX5 cX5_fallOf 4 (some .int) ({ frames := 4, cells := 0, slots := 0, locals := 89 } : Room) 0 0
def D5_fallOf_c35 (K9 : Int32 → Int32 → Int32 → MM → Prop) (Q : Int32 → MM → Prop) (x1 : Int32) (x3 : Int32) (s0 : Int32) (M : MM) : Prop := D5_hourBy (0 : Int32) M (fun (M6 : MM) => (fun v7 : Int32 => K9 x1 s0 v7 M6) (x3 + (1 : Int32)))
def D5_fallOf_c47 (Q : Int32 → MM → Prop) (x2 : Int32) (M : MM) : Prop := D5_again M (fun (M4 : MM) => Q x2 M4)
def D5_fallOf_c9 (Q : Int32 → MM → Prop) : Nat → Int32 → Int32 → Int32 → MM → Prop
  | 0, _, _, _, _ => False
  | n + 1, x1, x2, x3, M => (((60 : Int32) < x3 → D5_fallOf_c47 Q x2 M) ∧ (¬ (60 : Int32) < x3 → ((0 ≤ x2 → D5_fallOf_c47 Q x2 M) ∧ (¬ 0 ≤ x2 → ib 67 x1 ∧ (((M 67 (ix x1)) ≠ (1 : Int32) → D5_fallOf_c35 (D5_fallOf_c9 Q n) Q x1 x3 (-9 : Int32) M) ∧ ((M 67 (ix x1)) = (1 : Int32) → D5_fallOf_c35 (D5_fallOf_c9 Q n) Q x1 x3 x3 M))))))
def D5_fallOf (x1 : Int32) (M : MM) (Q : Int32 → MM → Prop) : Prop := D5_think M (fun (M2 : MM) => D5_fallOf_c9 Q FU x1 (-9 : Int32) (0 : Int32) M2)
set_option maxHeartbeats 4000000 in
set_option maxRecDepth 100000 in
theorem s5_fallOf_c35 {G : GG} {K9 : Int32 → Int32 → Int32 → MM → Prop} {Q : Int32 → MM → Prop} (hK9 : ∀ (x1 : Int32) (x2 : Int32) (x3 : Int32) (M : MM), K9 x1 x2 x3 M → A5_fallOf G Q 9 [(0, .ref (gA G 62)), (1, .int x1), (2, .int x2), (3, .int x3)] [] M) : ∀ (x1 : Int32) (x3 : Int32) (s0 : Int32) (M : MM), D5_fallOf_c35 K9 Q x1 x3 s0 M → A5_fallOf G Q 35 [(0, .ref (gA G 62)), (1, .int x1), (3, .int x3)] [.int s0] M := by
  intro x1 x3 s0 M h
  unfold D5_fallOf_c35 at h
  refine a_istore_n (i := 2) (L' := [(2, .int _), (0, .ref _), (1, .int _), (3, .int _)]) dX5_fallOf_35 rfl (by decide) rfl ?_
  refine a_aload_n dX5_fallOf_36 1 rfl ?_
  refine a_iconst (v := 0) dX5_fallOf_37 (by decide) ?_
  refine a_callVv (n := 1) [.int _] (C := RX5) (ci := 3) (qc := (RX5, TX5, 40)) (fsF := fl3 G _) ob_62.1 (fun _ => en3 ob_62.2) rfl rfl dX5_fallOf_38 (s5_hourBy h) (gV tbc kM_RX5_146_X5_hourBy kI_X5_hourBy kS_X5_hourBy kN_RX5 kC_X5_hourBy) rfl (by decide +kernel) ⟨Nat.le_of_ble_eq_true rfl, Nat.le_of_ble_eq_true rfl⟩ rfl rfl (Nat.le_of_ble_eq_true rfl) ⟨Nat.le_refl 0, Nat.le_refl 0⟩ (fun M h => ?_)
  refine a_iinc (L' := [(3, .int _), (2, .int _), (0, .ref _), (1, .int _)]) dX5_fallOf_41 3 rfl (show _ + Int32.ofInt (1 : Int) = _ + (1 : Int32) from rfl) (by decide) rfl ?_
  refine a_goto (tgt := 9) dX5_fallOf_44 (by decide) ?_
  refine a_sub [2, 3, 1, 0] rfl ?_
  exact hK9 _ _ _ _ h
set_option maxHeartbeats 4000000 in
set_option maxRecDepth 100000 in
theorem s5_fallOf_c47 {G : GG} {Q : Int32 → MM → Prop} : ∀ (x2 : Int32) (M : MM), D5_fallOf_c47 Q x2 M → A5_fallOf G Q 47 [(0, .ref (gA G 62)), (2, .int x2)] [] M := by
  intro x2 M h
  unfold D5_fallOf_c47 at h
  refine a_aload_n dX5_fallOf_47 0 rfl ?_
  refine a_callVv (n := 0) [] (C := RX5) (ci := 3) (qc := (RX5, TX5, 40)) (fsF := fl3 G _) ob_62.1 (fun _ => en3 ob_62.2) rfl rfl dX5_fallOf_48 (s5_again h) (gV tbc kM_RX5_215_X5_again kI_X5_again kS_X5_again kN_RX5 kC_X5_again) rfl (by decide +kernel) ⟨Nat.le_of_ble_eq_true rfl, Nat.le_of_ble_eq_true rfl⟩ rfl rfl (Nat.le_of_ble_eq_true rfl) ⟨Nat.le_refl 0, Nat.le_refl 0⟩ (fun M h => ?_)
  refine a_iload_n dX5_fallOf_51 1 rfl ?_
  exact a_iret dX5_fallOf_52 ⟨_, rfl, h⟩
set_option maxHeartbeats 4000000 in
set_option maxRecDepth 100000 in
theorem s5_fallOf_c9 {G : GG} {Q : Int32 → MM → Prop} : ∀ (n : Nat) (x1 : Int32) (x2 : Int32) (x3 : Int32) (M : MM), D5_fallOf_c9 Q n x1 x2 x3 M → A5_fallOf G Q 9 [(0, .ref (gA G 62)), (1, .int x1), (2, .int x2), (3, .int x3)] [] M := by
  intro n
  induction n with
  | zero => intro x1 x2 x3 M h; exact h.elim
  | succ n ih =>
    intro x1 x2 x3 M h
    unfold D5_fallOf_c9 at h
    refine a_iload_n dX5_fallOf_9 3 rfl ?_
    refine a_bipush (v := 60) dX5_fallOf_10 (by decide) ?_
    refine a_icmp_gt (tgt := 47) dX5_fallOf_12 (by decide) (fun c => ?_) (fun c => ?_)
    · have h := h.1 c
      refine a_sub [0, 2] rfl ?_
      exact s5_fallOf_c47 _ _ h
    · have h := h.2 c
      refine a_iload_n dX5_fallOf_15 2 rfl ?_
      refine a_if_ge (tgt := 47) dX5_fallOf_16 (by decide) (fun c => ?_) (fun c => ?_)
      · have h := h.1 c
        refine a_sub [0, 2] rfl ?_
        exact s5_fallOf_c47 _ _ h
      · have h := h.2 c
        refine a_aload_n dX5_fallOf_19 0 rfl ?_
        refine a_get3 dX5_fallOf_20 5 (by decide) (tbc _ kF_RX5_22) (fun w h => tbc _ (uW3 w h)) rfl ob_62 rfl ?_
        refine a_iload_n dX5_fallOf_23 1 rfl ?_
        refine a_iald dX5_fallOf_24 h.1 ?_
        have h := h.2
        refine a_iconst (v := 1) dX5_fallOf_25 (by decide) ?_
        refine a_icmp_ne (tgt := 33) dX5_fallOf_26 (by decide) (fun c => ?_) (fun c => ?_)
        · have h := h.1 c
          refine a_bipush (v := -9) dX5_fallOf_33 (by decide) ?_
          refine a_sub [0, 1, 3] rfl ?_
          exact s5_fallOf_c35 ih _ _ _ _ h
        · have h := h.2 c
          refine a_iload_n dX5_fallOf_29 3 rfl ?_
          refine a_goto (tgt := 35) dX5_fallOf_30 (by decide) ?_
          refine a_sub [0, 1, 3] rfl ?_
          exact s5_fallOf_c35 ih _ _ _ _ h
set_option maxHeartbeats 4000000 in
set_option maxRecDepth 100000 in
theorem s5_fallOf {G : GG} {x1 : Int32} {M : MM} {Q : Int32 → MM → Prop} (h : D5_fallOf x1 M Q) : CM G yX5_fallOf (WY yX5_fallOf cX5_fallOf 4 (some .int)) 4 89 [.ref (gA G 62), .int x1] M (qI Q) := by
  refine CM.of (cc := cX5_fallOf) (nL := 4) (ret := (some .int)) (own := RX5) (by decide +kernel) rfl rfl (Nat.le_of_ble_eq_true rfl) ?_
  show A5_fallOf G Q 0 [(0, .ref (gA G 62)), (1, .int x1)] [] M
  unfold D5_fallOf at h
  refine a_bipush (v := -9) dX5_fallOf_0 (by decide) ?_
  refine a_istore_n (i := 2) (L' := [(2, .int _), (0, .ref _), (1, .int _)]) dX5_fallOf_2 rfl (by decide) rfl ?_
  refine a_aload_n dX5_fallOf_3 1 rfl ?_
  refine a_callVv (n := 0) [] (C := RX5) (ci := 3) (qc := (RX5, TX5, 40)) (fsF := fl3 G _) ob_62.1 (fun _ => en3 ob_62.2) rfl rfl dX5_fallOf_4 (s5_think h) (gV tbc kM_RX5_209_X5_think kI_X5_think kS_X5_think kN_RX5 kC_X5_think) rfl (by decide +kernel) ⟨Nat.le_of_ble_eq_true rfl, Nat.le_of_ble_eq_true rfl⟩ rfl rfl (Nat.le_of_ble_eq_true rfl) ⟨Nat.le_refl 0, Nat.le_refl 0⟩ (fun M h => ?_)
  refine a_iconst (v := 0) dX5_fallOf_7 (by decide) ?_
  refine a_istore_n (i := 3) (L' := [(3, .int _), (2, .int _), (0, .ref _), (1, .int _)]) dX5_fallOf_8 rfl (by decide) rfl ?_
  refine a_sub [2, 3, 1, 0] rfl ?_
  exact s5_fallOf_c9 _ _ _ _ _ h

/-! X5_falls -/
theorem dX5_falls_0 : decode cX5_falls 0 = .ok (.aload_n 0, 1) := by decide +kernel
theorem dX5_falls_1 : decode cX5_falls 1 = .ok (.iconst 0, 1) := by decide +kernel
theorem dX5_falls_2 : decode cX5_falls 2 = .ok (.putfield 73, 3) := by decide +kernel
theorem dX5_falls_5 : decode cX5_falls 5 = .ok (.iload_n 1, 1) := by decide +kernel
theorem dX5_falls_6 : decode cX5_falls 6 = .ok (.i2l, 1) := by decide +kernel
theorem dX5_falls_7 : decode cX5_falls 7 = .ok (.ldc2_w 266, 3) := by decide +kernel
theorem dX5_falls_10 : decode cX5_falls 10 = .ok (.aload_n 0, 1) := by decide +kernel
theorem dX5_falls_11 : decode cX5_falls 11 = .ok (.getfield 77, 3) := by decide +kernel
theorem dX5_falls_14 : decode cX5_falls 14 = .ok (.iconst 1, 1) := by decide +kernel
theorem dX5_falls_15 : decode cX5_falls 15 = .ok (.isub, 1) := by decide +kernel
theorem dX5_falls_16 : decode cX5_falls 16 = .ok (.i2l, 1) := by decide +kernel
theorem dX5_falls_17 : decode cX5_falls 17 = .ok (.invokestatic 80, 3) := by decide +kernel
theorem dX5_falls_20 : decode cX5_falls 20 = .ok (.ifCond .ne 9, 3) := by decide +kernel
theorem dX5_falls_23 : decode cX5_falls 23 = .ok (.aload_n 0, 1) := by decide +kernel
theorem dX5_falls_24 : decode cX5_falls 24 = .ok (.iconst (-1), 1) := by decide +kernel
theorem dX5_falls_25 : decode cX5_falls 25 = .ok (.invokevirtual 149, 3) := by decide +kernel
theorem dX5_falls_28 : decode cX5_falls 28 = .ok (.ireturn, 1) := by decide +kernel
theorem dX5_falls_29 : decode cX5_falls 29 = .ok (.iload_n 1, 1) := by decide +kernel
theorem dX5_falls_30 : decode cX5_falls 30 = .ok (.ifCond .lt 9, 3) := by decide +kernel
theorem dX5_falls_33 : decode cX5_falls 33 = .ok (.aload_n 0, 1) := by decide +kernel
theorem dX5_falls_34 : decode cX5_falls 34 = .ok (.iload_n 1, 1) := by decide +kernel
theorem dX5_falls_35 : decode cX5_falls 35 = .ok (.invokevirtual 268, 3) := by decide +kernel
theorem dX5_falls_38 : decode cX5_falls 38 = .ok (.ireturn, 1) := by decide +kernel
theorem dX5_falls_39 : decode cX5_falls 39 = .ok (.bipush (-9), 2) := by decide +kernel
theorem dX5_falls_41 : decode cX5_falls 41 = .ok (.istore_n 2, 1) := by decide +kernel
theorem dX5_falls_42 : decode cX5_falls 42 = .ok (.bipush 61, 2) := by decide +kernel
theorem dX5_falls_44 : decode cX5_falls 44 = .ok (.istore_n 3, 1) := by decide +kernel
theorem dX5_falls_45 : decode cX5_falls 45 = .ok (.iconst 0, 1) := by decide +kernel
theorem dX5_falls_46 : decode cX5_falls 46 = .ok (.istore 4, 2) := by decide +kernel
theorem dX5_falls_48 : decode cX5_falls 48 = .ok (.iload 4, 2) := by decide +kernel
theorem dX5_falls_50 : decode cX5_falls 50 = .ok (.aload_n 0, 1) := by decide +kernel
theorem dX5_falls_51 : decode cX5_falls 51 = .ok (.getfield 77, 3) := by decide +kernel
theorem dX5_falls_54 : decode cX5_falls 54 = .ok (.if_icmp .ge 68, 3) := by decide +kernel
theorem dX5_falls_57 : decode cX5_falls 57 = .ok (.aload_n 0, 1) := by decide +kernel
theorem dX5_falls_58 : decode cX5_falls 58 = .ok (.getfield 22, 3) := by decide +kernel
theorem dX5_falls_61 : decode cX5_falls 61 = .ok (.iload 4, 2) := by decide +kernel
theorem dX5_falls_63 : decode cX5_falls 63 = .ok (.iaload, 1) := by decide +kernel
theorem dX5_falls_64 : decode cX5_falls 64 = .ok (.ifCond .ne 12, 3) := by decide +kernel
theorem dX5_falls_67 : decode cX5_falls 67 = .ok (.aload_n 0, 1) := by decide +kernel
theorem dX5_falls_68 : decode cX5_falls 68 = .ok (.iload 4, 2) := by decide +kernel
theorem dX5_falls_70 : decode cX5_falls 70 = .ok (.invokevirtual 268, 3) := by decide +kernel
theorem dX5_falls_73 : decode cX5_falls 73 = .ok (.goto 5, 3) := by decide +kernel
theorem dX5_falls_76 : decode cX5_falls 76 = .ok (.bipush (-9), 2) := by decide +kernel
theorem dX5_falls_78 : decode cX5_falls 78 = .ok (.istore 5, 2) := by decide +kernel
theorem dX5_falls_80 : decode cX5_falls 80 = .ok (.iload 5, 2) := by decide +kernel
theorem dX5_falls_82 : decode cX5_falls 82 = .ok (.ifCond .lt 14, 3) := by decide +kernel
theorem dX5_falls_85 : decode cX5_falls 85 = .ok (.iload 5, 2) := by decide +kernel
theorem dX5_falls_87 : decode cX5_falls 87 = .ok (.iload_n 3, 1) := by decide +kernel
theorem dX5_falls_88 : decode cX5_falls 88 = .ok (.if_icmp .ge 8, 3) := by decide +kernel
theorem dX5_falls_91 : decode cX5_falls 91 = .ok (.iload 4, 2) := by decide +kernel
theorem dX5_falls_93 : decode cX5_falls 93 = .ok (.goto 4, 3) := by decide +kernel
theorem dX5_falls_96 : decode cX5_falls 96 = .ok (.iload_n 2, 1) := by decide +kernel
theorem dX5_falls_97 : decode cX5_falls 97 = .ok (.istore_n 2, 1) := by decide +kernel
theorem dX5_falls_98 : decode cX5_falls 98 = .ok (.iload 5, 2) := by decide +kernel
theorem dX5_falls_100 : decode cX5_falls 100 = .ok (.ifCond .lt 14, 3) := by decide +kernel
theorem dX5_falls_103 : decode cX5_falls 103 = .ok (.iload 5, 2) := by decide +kernel
theorem dX5_falls_105 : decode cX5_falls 105 = .ok (.iload_n 3, 1) := by decide +kernel
theorem dX5_falls_106 : decode cX5_falls 106 = .ok (.if_icmp .ge 8, 3) := by decide +kernel
theorem dX5_falls_109 : decode cX5_falls 109 = .ok (.iload 5, 2) := by decide +kernel
theorem dX5_falls_111 : decode cX5_falls 111 = .ok (.goto 4, 3) := by decide +kernel
theorem dX5_falls_114 : decode cX5_falls 114 = .ok (.iload_n 3, 1) := by decide +kernel
theorem dX5_falls_115 : decode cX5_falls 115 = .ok (.istore_n 3, 1) := by decide +kernel
theorem dX5_falls_116 : decode cX5_falls 116 = .ok (.iinc 4 1, 3) := by decide +kernel
theorem dX5_falls_119 : decode cX5_falls 119 = .ok (.goto (-71), 3) := by decide +kernel
theorem dX5_falls_122 : decode cX5_falls 122 = .ok (.iload_n 2, 1) := by decide +kernel
theorem dX5_falls_123 : decode cX5_falls 123 = .ok (.ireturn, 1) := by decide +kernel
abbrev A5_falls (G : GG) (Q : Int32 → MM → Prop) := AW G E0 (MZ G (qI Q)) (WY yX5_falls cX5_falls 6 (some .int)) RX5 cX5_falls 6 (some .int) ({ frames := 5, cells := 0, slots := 0, locals := 112 } : Room) 0 0
def D5_falls_c115 (K48 : Int32 → Int32 → Int32 → MM → Prop) (Q : Int32 → MM → Prop) (x2 : Int32) (x4 : Int32) (s0 : Int32) (M : MM) : Prop := (fun v10 : Int32 => K48 x2 s0 v10 M) (x4 + (1 : Int32))
def D5_falls_c114 (K48 : Int32 → Int32 → Int32 → MM → Prop) (Q : Int32 → MM → Prop) (x2 : Int32) (x3 : Int32) (x4 : Int32) (M : MM) : Prop := D5_falls_c115 K48 Q x2 x4 x3 M
def D5_falls_c97 (K48 : Int32 → Int32 → Int32 → MM → Prop) (Q : Int32 → MM → Prop) (x3 : Int32) (x4 : Int32) (x5 : Int32) (s0 : Int32) (M : MM) : Prop := ((x5 < 0 → D5_falls_c114 K48 Q s0 x3 x4 M) ∧ (¬ x5 < 0 → ((x3 ≤ x5 → D5_falls_c114 K48 Q s0 x3 x4 M) ∧ (¬ x3 ≤ x5 → D5_falls_c115 K48 Q s0 x4 x5 M))))
def D5_falls_c96 (K48 : Int32 → Int32 → Int32 → MM → Prop) (Q : Int32 → MM → Prop) (x2 : Int32) (x3 : Int32) (x4 : Int32) (x5 : Int32) (M : MM) : Prop := D5_falls_c97 K48 Q x3 x4 x5 x2 M
def D5_falls_c78 (K48 : Int32 → Int32 → Int32 → MM → Prop) (Q : Int32 → MM → Prop) (x2 : Int32) (x3 : Int32) (x4 : Int32) (s0 : Int32) (M : MM) : Prop := ((s0 < 0 → D5_falls_c96 K48 Q x2 x3 x4 s0 M) ∧ (¬ s0 < 0 → ((x3 ≤ s0 → D5_falls_c96 K48 Q x2 x3 x4 s0 M) ∧ (¬ x3 ≤ s0 → D5_falls_c97 K48 Q x3 x4 s0 x4 M))))
def D5_falls_c48 (Q : Int32 → MM → Prop) : Nat → Int32 → Int32 → Int32 → MM → Prop
  | 0, _, _, _, _ => False
  | n + 1, x2, x3, x4, M => (((M 62 0) ≤ x4 → Q x2 M) ∧ (¬ (M 62 0) ≤ x4 → ib 67 x4 ∧ (((M 67 (ix x4)) ≠ 0 → D5_falls_c78 (D5_falls_c48 Q n) Q x2 x3 x4 (-9 : Int32) M) ∧ ((M 67 (ix x4)) = 0 → D5_fallOf x4 M (fun (r8 : Int32) (M9 : MM) => D5_falls_c78 (D5_falls_c48 Q n) Q x2 x3 x4 r8 M9)))))
def D5_falls (x1 : Int32) (M : MM) (Q : Int32 → MM → Prop) : Prop := (fun M1 : MM => D5_in x1.toInt64 (-1 : Int64) (((M1 62 0) - (1 : Int32)).toInt64) M1 (fun (r2 : Int32) (M3 : MM) => ((r2 ≠ 0 → ((x1 < 0 → D5_falls_c48 Q FU (-9 : Int32) (61 : Int32) (0 : Int32) M3) ∧ (¬ x1 < 0 → D5_fallOf x1 M3 (fun (r4 : Int32) (M5 : MM) => Q r4 M5)))) ∧ (r2 = 0 → D5_refuse (-1 : Int32) M3 (fun (r6 : Int32) (M7 : MM) => Q r6 M7))))) (up M 62 9 (0 : Int32))
set_option maxHeartbeats 4000000 in
set_option maxRecDepth 100000 in
theorem s5_falls_c115 {G : GG} {K48 : Int32 → Int32 → Int32 → MM → Prop} {Q : Int32 → MM → Prop} (hK48 : ∀ (x2 : Int32) (x3 : Int32) (x4 : Int32) (M : MM), K48 x2 x3 x4 M → A5_falls G Q 48 [(0, .ref (gA G 62)), (2, .int x2), (3, .int x3), (4, .int x4)] [] M) : ∀ (x2 : Int32) (x4 : Int32) (s0 : Int32) (M : MM), D5_falls_c115 K48 Q x2 x4 s0 M → A5_falls G Q 115 [(0, .ref (gA G 62)), (2, .int x2), (4, .int x4)] [.int s0] M := by
  intro x2 x4 s0 M h
  unfold D5_falls_c115 at h
  refine a_istore_n (i := 3) (L' := [(3, .int _), (0, .ref _), (2, .int _), (4, .int _)]) dX5_falls_115 rfl (by decide) rfl ?_
  refine a_iinc (L' := [(4, .int _), (3, .int _), (0, .ref _), (2, .int _)]) dX5_falls_116 3 rfl (show _ + Int32.ofInt (1 : Int) = _ + (1 : Int32) from rfl) (by decide) rfl ?_
  refine a_goto (tgt := 48) dX5_falls_119 (by decide) ?_
  refine a_sub [2, 3, 1, 0] rfl ?_
  exact hK48 _ _ _ _ h
set_option maxHeartbeats 4000000 in
set_option maxRecDepth 100000 in
theorem s5_falls_c114 {G : GG} {K48 : Int32 → Int32 → Int32 → MM → Prop} {Q : Int32 → MM → Prop} (hK48 : ∀ (x2 : Int32) (x3 : Int32) (x4 : Int32) (M : MM), K48 x2 x3 x4 M → A5_falls G Q 48 [(0, .ref (gA G 62)), (2, .int x2), (3, .int x3), (4, .int x4)] [] M) : ∀ (x2 : Int32) (x3 : Int32) (x4 : Int32) (M : MM), D5_falls_c114 K48 Q x2 x3 x4 M → A5_falls G Q 114 [(0, .ref (gA G 62)), (2, .int x2), (3, .int x3), (4, .int x4)] [] M := by
  intro x2 x3 x4 M h
  unfold D5_falls_c114 at h
  refine a_iload_n dX5_falls_114 2 rfl ?_
  refine a_sub [0, 1, 3] rfl ?_
  exact s5_falls_c115 hK48 _ _ _ _ h
set_option maxHeartbeats 4000000 in
set_option maxRecDepth 100000 in
theorem s5_falls_c97 {G : GG} {K48 : Int32 → Int32 → Int32 → MM → Prop} {Q : Int32 → MM → Prop} (hK48 : ∀ (x2 : Int32) (x3 : Int32) (x4 : Int32) (M : MM), K48 x2 x3 x4 M → A5_falls G Q 48 [(0, .ref (gA G 62)), (2, .int x2), (3, .int x3), (4, .int x4)] [] M) : ∀ (x3 : Int32) (x4 : Int32) (x5 : Int32) (s0 : Int32) (M : MM), D5_falls_c97 K48 Q x3 x4 x5 s0 M → A5_falls G Q 97 [(0, .ref (gA G 62)), (3, .int x3), (4, .int x4), (5, .int x5)] [.int s0] M := by
  intro x3 x4 x5 s0 M h
  unfold D5_falls_c97 at h
  refine a_istore_n (i := 2) (L' := [(2, .int _), (0, .ref _), (3, .int _), (4, .int _), (5, .int _)]) dX5_falls_97 rfl (by decide) rfl ?_
  refine a_iload dX5_falls_98 4 rfl ?_
  refine a_if_lt (tgt := 114) dX5_falls_100 (by decide) (fun c => ?_) (fun c => ?_)
  · have h := h.1 c
    refine a_sub [1, 0, 2, 3] rfl ?_
    exact s5_falls_c114 hK48 _ _ _ _ h
  · have h := h.2 c
    refine a_iload dX5_falls_103 4 rfl ?_
    refine a_iload_n dX5_falls_105 2 rfl ?_
    refine a_icmp_ge (tgt := 114) dX5_falls_106 (by decide) (fun c => ?_) (fun c => ?_)
    · have h := h.1 c
      refine a_sub [1, 0, 2, 3] rfl ?_
      exact s5_falls_c114 hK48 _ _ _ _ h
    · have h := h.2 c
      refine a_iload dX5_falls_109 4 rfl ?_
      refine a_goto (tgt := 115) dX5_falls_111 (by decide) ?_
      refine a_sub [1, 0, 3] rfl ?_
      exact s5_falls_c115 hK48 _ _ _ _ h
set_option maxHeartbeats 4000000 in
set_option maxRecDepth 100000 in
theorem s5_falls_c96 {G : GG} {K48 : Int32 → Int32 → Int32 → MM → Prop} {Q : Int32 → MM → Prop} (hK48 : ∀ (x2 : Int32) (x3 : Int32) (x4 : Int32) (M : MM), K48 x2 x3 x4 M → A5_falls G Q 48 [(0, .ref (gA G 62)), (2, .int x2), (3, .int x3), (4, .int x4)] [] M) : ∀ (x2 : Int32) (x3 : Int32) (x4 : Int32) (x5 : Int32) (M : MM), D5_falls_c96 K48 Q x2 x3 x4 x5 M → A5_falls G Q 96 [(0, .ref (gA G 62)), (2, .int x2), (3, .int x3), (4, .int x4), (5, .int x5)] [] M := by
  intro x2 x3 x4 x5 M h
  unfold D5_falls_c96 at h
  refine a_iload_n dX5_falls_96 1 rfl ?_
  refine a_sub [0, 2, 3, 4] rfl ?_
  exact s5_falls_c97 hK48 _ _ _ _ _ h
set_option maxHeartbeats 4000000 in
set_option maxRecDepth 100000 in
theorem s5_falls_c78 {G : GG} {K48 : Int32 → Int32 → Int32 → MM → Prop} {Q : Int32 → MM → Prop} (hK48 : ∀ (x2 : Int32) (x3 : Int32) (x4 : Int32) (M : MM), K48 x2 x3 x4 M → A5_falls G Q 48 [(0, .ref (gA G 62)), (2, .int x2), (3, .int x3), (4, .int x4)] [] M) : ∀ (x2 : Int32) (x3 : Int32) (x4 : Int32) (s0 : Int32) (M : MM), D5_falls_c78 K48 Q x2 x3 x4 s0 M → A5_falls G Q 78 [(0, .ref (gA G 62)), (2, .int x2), (3, .int x3), (4, .int x4)] [.int s0] M := by
  intro x2 x3 x4 s0 M h
  unfold D5_falls_c78 at h
  refine a_istore (i := 5) (L' := [(5, .int _), (0, .ref _), (2, .int _), (3, .int _), (4, .int _)]) dX5_falls_78 (by decide) rfl ?_
  refine a_iload dX5_falls_80 0 rfl ?_
  refine a_if_lt (tgt := 96) dX5_falls_82 (by decide) (fun c => ?_) (fun c => ?_)
  · have h := h.1 c
    refine a_sub [1, 2, 3, 4, 0] rfl ?_
    exact s5_falls_c96 hK48 _ _ _ _ _ h
  · have h := h.2 c
    refine a_iload dX5_falls_85 0 rfl ?_
    refine a_iload_n dX5_falls_87 3 rfl ?_
    refine a_icmp_ge (tgt := 96) dX5_falls_88 (by decide) (fun c => ?_) (fun c => ?_)
    · have h := h.1 c
      refine a_sub [1, 2, 3, 4, 0] rfl ?_
      exact s5_falls_c96 hK48 _ _ _ _ _ h
    · have h := h.2 c
      refine a_iload dX5_falls_91 4 rfl ?_
      refine a_goto (tgt := 97) dX5_falls_93 (by decide) ?_
      refine a_sub [1, 3, 4, 0] rfl ?_
      exact s5_falls_c97 hK48 _ _ _ _ _ h
set_option maxHeartbeats 4000000 in
set_option maxRecDepth 100000 in
theorem s5_falls_c48 {G : GG} {Q : Int32 → MM → Prop} : ∀ (n : Nat) (x2 : Int32) (x3 : Int32) (x4 : Int32) (M : MM), D5_falls_c48 Q n x2 x3 x4 M → A5_falls G Q 48 [(0, .ref (gA G 62)), (2, .int x2), (3, .int x3), (4, .int x4)] [] M := by
  intro n
  induction n with
  | zero => intro x2 x3 x4 M h; exact h.elim
  | succ n ih =>
    intro x2 x3 x4 M h
    unfold D5_falls_c48 at h
    refine a_iload dX5_falls_48 3 rfl ?_
    refine a_aload_n dX5_falls_50 0 rfl ?_
    refine a_get3 dX5_falls_51 0 (by decide) (tbc _ kF_RX5_77) (fun w h => tbc _ (uW3 w h)) rfl ob_62 rfl ?_
    refine a_icmp_ge (tgt := 122) dX5_falls_54 (by decide) (fun c => ?_) (fun c => ?_)
    · have h := h.1 c
      refine a_iload_n dX5_falls_122 1 rfl ?_
      exact a_iret dX5_falls_123 ⟨_, rfl, h⟩
    · have h := h.2 c
      refine a_aload_n dX5_falls_57 0 rfl ?_
      refine a_get3 dX5_falls_58 5 (by decide) (tbc _ kF_RX5_22) (fun w h => tbc _ (uW3 w h)) rfl ob_62 rfl ?_
      refine a_iload dX5_falls_61 3 rfl ?_
      refine a_iald dX5_falls_63 h.1 ?_
      have h := h.2
      refine a_if_ne (tgt := 76) dX5_falls_64 (by decide) (fun c => ?_) (fun c => ?_)
      · have h := h.1 c
        refine a_bipush (v := -9) dX5_falls_76 (by decide) ?_
        refine a_sub [0, 1, 2, 3] rfl ?_
        exact s5_falls_c78 ih _ _ _ _ _ h
      · have h := h.2 c
        refine a_aload_n dX5_falls_67 0 rfl ?_
        refine a_iload dX5_falls_68 3 rfl ?_
        refine a_callVi (n := 1) [.int _] (C := RX5) (ci := 3) (qc := (RX5, TX5, 40)) (fsF := fl3 G _) ob_62.1 (fun _ => en3 ob_62.2) rfl rfl dX5_falls_70 (s5_fallOf h) (gV tbc kM_RX5_268_X5_fallOf kI_X5_fallOf kS_X5_fallOf kN_RX5 kC_X5_fallOf) rfl (by decide +kernel) ⟨Nat.le_of_ble_eq_true rfl, Nat.le_of_ble_eq_true rfl⟩ rfl rfl (Nat.le_of_ble_eq_true rfl) ⟨Nat.le_refl 0, Nat.le_refl 0⟩ (fun r M h => ?_)
        refine a_goto (tgt := 78) dX5_falls_73 (by decide) ?_
        refine a_sub [0, 1, 2, 3] rfl ?_
        exact s5_falls_c78 ih _ _ _ _ _ h
set_option maxHeartbeats 4000000 in
set_option maxRecDepth 100000 in
theorem s5_falls {G : GG} {x1 : Int32} {M : MM} {Q : Int32 → MM → Prop} (h : D5_falls x1 M Q) : CM G yX5_falls (WY yX5_falls cX5_falls 6 (some .int)) 5 112 [.ref (gA G 62), .int x1] M (qI Q) := by
  refine CM.of (cc := cX5_falls) (nL := 6) (ret := (some .int)) (own := RX5) (by decide +kernel) rfl rfl (Nat.le_of_ble_eq_true rfl) ?_
  show A5_falls G Q 0 [(0, .ref (gA G 62)), (1, .int x1)] [] M
  unfold D5_falls at h
  refine a_aload_n dX5_falls_0 0 rfl ?_
  refine a_iconst (v := 0) dX5_falls_1 (by decide) ?_
  refine a_put3 dX5_falls_2 9 (by decide) (tbc _ kF_RX5_73) (fun w h => tbc _ (uW3 w h)) rfl rfl rfl rfl ob_62 fs3_9 ?_
  refine a_iload_n dX5_falls_5 1 rfl ?_
  refine a_i2l dX5_falls_6 ?_
  refine a_ldc2 dX5_falls_7 (tbc _ kL_RX5_266) ?_
  refine a_aload_n dX5_falls_10 0 rfl ?_
  refine a_get3 dX5_falls_11 0 (by decide) (tbc _ kF_RX5_77) (fun w h => tbc _ (uW3 w h)) rfl ob_62 rfl ?_
  refine a_iconst (v := 1) dX5_falls_14 (by decide) ?_
  refine a_isub dX5_falls_15 ?_
  refine a_i2l dX5_falls_16 ?_
  refine a_callSi (n := 3) [.long _, .long _, .long _] dX5_falls_17 (s5_in h) (gS tbc kM_RX5_80_X5_in kT_X5_in kN_RX5 kC_X5_in) rfl (by decide +kernel) ⟨Nat.le_of_ble_eq_true rfl, Nat.le_of_ble_eq_true rfl⟩ rfl rfl (Nat.le_of_ble_eq_true rfl) ⟨Nat.le_refl 0, Nat.le_refl 0⟩ (fun r M h => ?_)
  refine a_if_ne (tgt := 29) dX5_falls_20 (by decide) (fun c => ?_) (fun c => ?_)
  · have h := h.1 c
    refine a_iload_n dX5_falls_29 1 rfl ?_
    refine a_if_lt (tgt := 39) dX5_falls_30 (by decide) (fun c => ?_) (fun c => ?_)
    · have h := h.1 c
      refine a_bipush (v := -9) dX5_falls_39 (by decide) ?_
      refine a_istore_n (i := 2) (L' := [(2, .int _), (0, .ref _), (1, .int _)]) dX5_falls_41 rfl (by decide) rfl ?_
      refine a_bipush (v := 61) dX5_falls_42 (by decide) ?_
      refine a_istore_n (i := 3) (L' := [(3, .int _), (2, .int _), (0, .ref _), (1, .int _)]) dX5_falls_44 rfl (by decide) rfl ?_
      refine a_iconst (v := 0) dX5_falls_45 (by decide) ?_
      refine a_istore (i := 4) (L' := [(4, .int _), (3, .int _), (2, .int _), (0, .ref _), (1, .int _)]) dX5_falls_46 (by decide) rfl ?_
      refine a_sub [3, 2, 1, 0] rfl ?_
      exact s5_falls_c48 _ _ _ _ _ h
    · have h := h.2 c
      refine a_aload_n dX5_falls_33 0 rfl ?_
      refine a_iload_n dX5_falls_34 1 rfl ?_
      refine a_callVi (n := 1) [.int _] (C := RX5) (ci := 3) (qc := (RX5, TX5, 40)) (fsF := fl3 G _) ob_62.1 (fun _ => en3 ob_62.2) rfl rfl dX5_falls_35 (s5_fallOf h) (gV tbc kM_RX5_268_X5_fallOf kI_X5_fallOf kS_X5_fallOf kN_RX5 kC_X5_fallOf) rfl (by decide +kernel) ⟨Nat.le_of_ble_eq_true rfl, Nat.le_of_ble_eq_true rfl⟩ rfl rfl (Nat.le_of_ble_eq_true rfl) ⟨Nat.le_refl 0, Nat.le_refl 0⟩ (fun r M h => ?_)
      exact a_iret dX5_falls_38 ⟨_, rfl, h⟩
  · have h := h.2 c
    refine a_aload_n dX5_falls_23 0 rfl ?_
    refine a_iconst (v := -1) dX5_falls_24 (by decide) ?_
    refine a_callVi (n := 1) [.int _] (C := RX5) (ci := 3) (qc := (RX5, TX5, 40)) (fsF := fl3 G _) ob_62.1 (fun _ => en3 ob_62.2) rfl rfl dX5_falls_25 (s5_refuse h) (gV tbc kM_RX5_149_X5_refuse kI_X5_refuse kS_X5_refuse kN_RX5 kC_X5_refuse) rfl (by decide +kernel) ⟨Nat.le_of_ble_eq_true rfl, Nat.le_of_ble_eq_true rfl⟩ rfl rfl (Nat.le_of_ble_eq_true rfl) ⟨Nat.le_refl 0, Nat.le_refl 0⟩ (fun r M h => ?_)
    exact a_iret dX5_falls_28 ⟨_, rfl, h⟩
