/-! X0_stands -/
theorem dX0_stands_0 : decode cX0_stands 0 = .ok (.iload_n 1, 1) := by decide +kernel
theorem dX0_stands_1 : decode cX0_stands 1 = .ok (.ifCond .lt 24, 3) := by decide +kernel
theorem dX0_stands_4 : decode cX0_stands 4 = .ok (.iload_n 1, 1) := by decide +kernel
theorem dX0_stands_5 : decode cX0_stands 5 = .ok (.bipush 10, 2) := by decide +kernel
theorem dX0_stands_7 : decode cX0_stands 7 = .ok (.if_icmp .ge 18, 3) := by decide +kernel
theorem dX0_stands_10 : decode cX0_stands 10 = .ok (.aload_n 0, 1) := by decide +kernel
theorem dX0_stands_11 : decode cX0_stands 11 = .ok (.getfield 28, 3) := by decide +kernel
theorem dX0_stands_14 : decode cX0_stands 14 = .ok (.iload_n 1, 1) := by decide +kernel
theorem dX0_stands_15 : decode cX0_stands 15 = .ok (.ishr, 1) := by decide +kernel
theorem dX0_stands_16 : decode cX0_stands 16 = .ok (.iconst 1, 1) := by decide +kernel
theorem dX0_stands_17 : decode cX0_stands 17 = .ok (.iand, 1) := by decide +kernel
theorem dX0_stands_18 : decode cX0_stands 18 = .ok (.ifCond .eq 7, 3) := by decide +kernel
theorem dX0_stands_21 : decode cX0_stands 21 = .ok (.iconst 1, 1) := by decide +kernel
theorem dX0_stands_22 : decode cX0_stands 22 = .ok (.goto 4, 3) := by decide +kernel
theorem dX0_stands_25 : decode cX0_stands 25 = .ok (.iconst 0, 1) := by decide +kernel
theorem dX0_stands_26 : decode cX0_stands 26 = .ok (.ireturn, 1) := by decide +kernel
abbrev A0_stands (G : GG) (Q : Int32 → MM → Prop) := AW G E0 (MZ G (qI Q)) (WY yX0_stands cX0_stands 2 (some .boolean)) RX0 cX0_stands 2 (some .boolean) ({ frames := 0, cells := 0, slots := 0, locals := 0 } : Room) 0 0
def D0_stands (b : Nat) (x1 : Int32) (M : MM) (Q : Int32 → MM → Prop) : Prop := ((x1 < 0 → Q (0 : Int32) M) ∧ (¬ x1 < 0 → (((10 : Int32) ≤ x1 → Q (0 : Int32) M) ∧ (¬ (10 : Int32) ≤ x1 → (((((M b 5) >>> (x1 &&& 31)) &&& (1 : Int32)) = 0 → Q (0 : Int32) M) ∧ (¬ (((M b 5) >>> (x1 &&& 31)) &&& (1 : Int32)) = 0 → Q (1 : Int32) M))))))
set_option maxHeartbeats 4000000 in
set_option maxRecDepth 100000 in
theorem s0_stands {G : GG} {b : Nat} (hb : ob b 0) {x1 : Int32} {M : MM} {Q : Int32 → MM → Prop} (h : D0_stands b x1 M Q) : CM G yX0_stands (WY yX0_stands cX0_stands 2 (some .boolean)) 0 0 [.ref (gA G b), .int x1] M (qI Q) := by
  refine CM.of (cc := cX0_stands) (nL := 2) (ret := (some .boolean)) (own := RX0) (by decide +kernel) rfl rfl (Nat.le_of_ble_eq_true rfl) ?_
  show A0_stands G Q 0 [(0, .ref (gA G b)), (1, .int x1)] [] M
  unfold D0_stands at h
  refine a_iload_n dX0_stands_0 1 rfl ?_
  refine a_if_lt (tgt := 25) dX0_stands_1 (by decide) (fun c => ?_) (fun c => ?_)
  · have h := h.1 c
    refine a_iconst (v := 0) dX0_stands_25 (by decide) ?_
    exact a_zret dX0_stands_26 (Or.inl rfl) ⟨_, rfl, h⟩
  · have h := h.2 c
    refine a_iload_n dX0_stands_4 1 rfl ?_
    refine a_bipush (v := 10) dX0_stands_5 (by decide) ?_
    refine a_icmp_ge (tgt := 25) dX0_stands_7 (by decide) (fun c => ?_) (fun c => ?_)
    · have h := h.1 c
      refine a_iconst (v := 0) dX0_stands_25 (by decide) ?_
      exact a_zret dX0_stands_26 (Or.inl rfl) ⟨_, rfl, h⟩
    · have h := h.2 c
      refine a_aload_n dX0_stands_10 0 rfl ?_
      refine a_get0 dX0_stands_11 5 (by decide) (tbc _ kF_RX0_28) (fun w h => tbc _ (uW0 w h)) rfl hb rfl ?_
      refine a_iload_n dX0_stands_14 1 rfl ?_
      refine a_ishr dX0_stands_15 ?_
      refine a_iconst (v := 1) dX0_stands_16 (by decide) ?_
      refine a_iand dX0_stands_17 ?_
      refine a_if_eq (tgt := 25) dX0_stands_18 (by decide) (fun c => ?_) (fun c => ?_)
      · have h := h.1 c
        refine a_iconst (v := 0) dX0_stands_25 (by decide) ?_
        exact a_zret dX0_stands_26 (Or.inl rfl) ⟨_, rfl, h⟩
      · have h := h.2 c
        refine a_iconst (v := 1) dX0_stands_21 (by decide) ?_
        refine a_goto (tgt := 26) dX0_stands_22 (by decide) ?_
        exact a_zret dX0_stands_26 (Or.inr rfl) ⟨_, rfl, h⟩

/-! X0_standingCells -/
theorem dX0_standingCells_0 : decode cX0_standingCells 0 = .ok (.iconst 0, 1) := by decide +kernel
theorem dX0_standingCells_1 : decode cX0_standingCells 1 = .ok (.istore_n 1, 1) := by decide +kernel
theorem dX0_standingCells_2 : decode cX0_standingCells 2 = .ok (.iconst 0, 1) := by decide +kernel
theorem dX0_standingCells_3 : decode cX0_standingCells 3 = .ok (.istore_n 2, 1) := by decide +kernel
theorem dX0_standingCells_4 : decode cX0_standingCells 4 = .ok (.iload_n 2, 1) := by decide +kernel
theorem dX0_standingCells_5 : decode cX0_standingCells 5 = .ok (.bipush 10, 2) := by decide +kernel
theorem dX0_standingCells_7 : decode cX0_standingCells 7 = .ok (.if_icmp .ge 28, 3) := by decide +kernel
theorem dX0_standingCells_10 : decode cX0_standingCells 10 = .ok (.aload_n 0, 1) := by decide +kernel
theorem dX0_standingCells_11 : decode cX0_standingCells 11 = .ok (.iload_n 2, 1) := by decide +kernel
theorem dX0_standingCells_12 : decode cX0_standingCells 12 = .ok (.invokevirtual 60, 3) := by decide +kernel
theorem dX0_standingCells_15 : decode cX0_standingCells 15 = .ok (.ifCond .eq 14, 3) := by decide +kernel
theorem dX0_standingCells_18 : decode cX0_standingCells 18 = .ok (.iload_n 1, 1) := by decide +kernel
theorem dX0_standingCells_19 : decode cX0_standingCells 19 = .ok (.iconst 1, 1) := by decide +kernel
theorem dX0_standingCells_20 : decode cX0_standingCells 20 = .ok (.aload_n 0, 1) := by decide +kernel
theorem dX0_standingCells_21 : decode cX0_standingCells 21 = .ok (.getfield 18, 3) := by decide +kernel
theorem dX0_standingCells_24 : decode cX0_standingCells 24 = .ok (.iload_n 2, 1) := by decide +kernel
theorem dX0_standingCells_25 : decode cX0_standingCells 25 = .ok (.iaload, 1) := by decide +kernel
theorem dX0_standingCells_26 : decode cX0_standingCells 26 = .ok (.ishl, 1) := by decide +kernel
theorem dX0_standingCells_27 : decode cX0_standingCells 27 = .ok (.ior, 1) := by decide +kernel
theorem dX0_standingCells_28 : decode cX0_standingCells 28 = .ok (.istore_n 1, 1) := by decide +kernel
theorem dX0_standingCells_29 : decode cX0_standingCells 29 = .ok (.iinc 2 1, 3) := by decide +kernel
theorem dX0_standingCells_32 : decode cX0_standingCells 32 = .ok (.goto (-28), 3) := by decide +kernel
theorem dX0_standingCells_35 : decode cX0_standingCells 35 = .ok (.iload_n 1, 1) := by decide +kernel
theorem dX0_standingCells_36 : decode cX0_standingCells 36 = .ok (.ireturn, 1) := by decide +kernel
abbrev A0_standingCells (G : GG) (Q : Int32 → MM → Prop) := AW G E0 (MZ G (qI Q)) (WY yX0_standingCells cX0_standingCells 3 (some .int)) RX0 cX0_standingCells 3 (some .int) ({ frames := 1, cells := 0, slots := 0, locals := 21 } : Room) 0 0
def D0_standingCells_c29 (b : Nat) (K4 : Int32 → Int32 → MM → Prop) (Q : Int32 → MM → Prop) (x1 : Int32) (x2 : Int32) (M : MM) : Prop := (fun v4 : Int32 => K4 x1 v4 M) (x2 + (1 : Int32))
def D0_standingCells_c4 (b : Nat) (Q : Int32 → MM → Prop) : Nat → Int32 → Int32 → MM → Prop
  | 0, _, _, _ => False
  | n + 1, x1, x2, M => (((10 : Int32) ≤ x2 → Q x1 M) ∧ (¬ (10 : Int32) ≤ x2 → D0_stands b x2 M (fun (r1 : Int32) (M2 : MM) => ((r1 = 0 → D0_standingCells_c29 b (D0_standingCells_c4 b Q n) Q x1 x2 M2) ∧ (¬ r1 = 0 → ib (b + 3) x2 ∧ (fun v3 : Int32 => D0_standingCells_c29 b (D0_standingCells_c4 b Q n) Q v3 x2 M2) (x1 ||| ((1 : Int32) <<< ((M2 (b + 3) (ix x2)) &&& 31))))))))
def D0_standingCells (b : Nat) (M : MM) (Q : Int32 → MM → Prop) : Prop := D0_standingCells_c4 b Q FU (0 : Int32) (0 : Int32) M
set_option maxHeartbeats 4000000 in
set_option maxRecDepth 100000 in
theorem s0_standingCells_c29 {G : GG} {b : Nat} (hb : ob b 0) {K4 : Int32 → Int32 → MM → Prop} {Q : Int32 → MM → Prop} (hK4 : ∀ (x1 : Int32) (x2 : Int32) (M : MM), K4 x1 x2 M → A0_standingCells G Q 4 [(0, .ref (gA G b)), (1, .int x1), (2, .int x2)] [] M) : ∀ (x1 : Int32) (x2 : Int32) (M : MM), D0_standingCells_c29 b K4 Q x1 x2 M → A0_standingCells G Q 29 [(0, .ref (gA G b)), (1, .int x1), (2, .int x2)] [] M := by
  intro x1 x2 M h
  unfold D0_standingCells_c29 at h
  refine a_iinc (L' := [(2, .int _), (0, .ref _), (1, .int _)]) dX0_standingCells_29 2 rfl (show _ + Int32.ofInt (1 : Int) = _ + (1 : Int32) from rfl) (by decide) rfl ?_
  refine a_goto (tgt := 4) dX0_standingCells_32 (by decide) ?_
  refine a_sub [1, 2, 0] rfl ?_
  exact hK4 _ _ _ h
set_option maxHeartbeats 4000000 in
set_option maxRecDepth 100000 in
theorem s0_standingCells_c4 {G : GG} {b : Nat} (hb : ob b 0) {Q : Int32 → MM → Prop} : ∀ (n : Nat) (x1 : Int32) (x2 : Int32) (M : MM), D0_standingCells_c4 b Q n x1 x2 M → A0_standingCells G Q 4 [(0, .ref (gA G b)), (1, .int x1), (2, .int x2)] [] M := by
  intro n
  induction n with
  | zero => intro x1 x2 M h; exact h.elim
  | succ n ih =>
    intro x1 x2 M h
    unfold D0_standingCells_c4 at h
    refine a_iload_n dX0_standingCells_4 2 rfl ?_
    refine a_bipush (v := 10) dX0_standingCells_5 (by decide) ?_
    refine a_icmp_ge (tgt := 35) dX0_standingCells_7 (by decide) (fun c => ?_) (fun c => ?_)
    · have h := h.1 c
      refine a_iload_n dX0_standingCells_35 1 rfl ?_
      exact a_iret dX0_standingCells_36 ⟨_, rfl, h⟩
    · have h := h.2 c
      refine a_aload_n dX0_standingCells_10 0 rfl ?_
      refine a_iload_n dX0_standingCells_11 2 rfl ?_
      refine a_callVi (n := 1) [.int _] (C := RX0) (ci := 0) (qc := (RX0, TX0, 9)) (fsF := fl0 G _) hb.1 (fun _ => en0 hb.2) rfl rfl dX0_standingCells_12 (s0_stands hb h) (gV tbc kM_RX0_60_X0_stands kI_X0_stands kS_X0_stands kN_RX0 kC_X0_stands) rfl (by decide +kernel) ⟨Nat.le_of_ble_eq_true rfl, Nat.le_of_ble_eq_true rfl⟩ rfl rfl (Nat.le_of_ble_eq_true rfl) ⟨Nat.le_refl 0, Nat.le_refl 0⟩ (fun r M h => ?_)
      refine a_if_eq (tgt := 29) dX0_standingCells_15 (by decide) (fun c => ?_) (fun c => ?_)
      · have h := h.1 c
        refine a_sub [0, 1, 2] rfl ?_
        exact s0_standingCells_c29 hb ih _ _ _ h
      · have h := h.2 c
        refine a_iload_n dX0_standingCells_18 1 rfl ?_
        refine a_iconst (v := 1) dX0_standingCells_19 (by decide) ?_
        refine a_aload_n dX0_standingCells_20 0 rfl ?_
        refine a_get0 dX0_standingCells_21 2 (by decide) (tbc _ kF_RX0_18) (fun w h => tbc _ (uW0 w h)) rfl hb rfl ?_
        refine a_iload_n dX0_standingCells_24 2 rfl ?_
        refine a_iald dX0_standingCells_25 h.1 ?_
        have h := h.2
        refine a_ishl dX0_standingCells_26 ?_
        refine a_ior dX0_standingCells_27 ?_
        refine a_istore_n (i := 1) (L' := [(1, .int _), (0, .ref _), (2, .int _)]) dX0_standingCells_28 rfl (by decide) rfl ?_
        refine a_sub [1, 0, 2] rfl ?_
        exact s0_standingCells_c29 hb ih _ _ _ h
set_option maxHeartbeats 4000000 in
set_option maxRecDepth 100000 in
theorem s0_standingCells {G : GG} {b : Nat} (hb : ob b 0) {M : MM} {Q : Int32 → MM → Prop} (h : D0_standingCells b M Q) : CM G yX0_standingCells (WY yX0_standingCells cX0_standingCells 3 (some .int)) 1 21 [.ref (gA G b)] M (qI Q) := by
  refine CM.of (cc := cX0_standingCells) (nL := 3) (ret := (some .int)) (own := RX0) (by decide +kernel) rfl rfl (Nat.le_of_ble_eq_true rfl) ?_
  show A0_standingCells G Q 0 [(0, .ref (gA G b))] [] M
  unfold D0_standingCells at h
  refine a_iconst (v := 0) dX0_standingCells_0 (by decide) ?_
  refine a_istore_n (i := 1) (L' := [(1, .int _), (0, .ref _)]) dX0_standingCells_1 rfl (by decide) rfl ?_
  refine a_iconst (v := 0) dX0_standingCells_2 (by decide) ?_
  refine a_istore_n (i := 2) (L' := [(2, .int _), (1, .int _), (0, .ref _)]) dX0_standingCells_3 rfl (by decide) rfl ?_
  refine a_sub [2, 1, 0] rfl ?_
  exact s0_standingCells_c4 hb _ _ _ _ h

/-! X0_aloneWorks -/
theorem dX0_aloneWorks_0 : decode cX0_aloneWorks 0 = .ok (.iconst 0, 1) := by decide +kernel
theorem dX0_aloneWorks_1 : decode cX0_aloneWorks 1 = .ok (.istore_n 1, 1) := by decide +kernel
theorem dX0_aloneWorks_2 : decode cX0_aloneWorks 2 = .ok (.aload_n 0, 1) := by decide +kernel
theorem dX0_aloneWorks_3 : decode cX0_aloneWorks 3 = .ok (.invokevirtual 120, 3) := by decide +kernel
theorem dX0_aloneWorks_6 : decode cX0_aloneWorks 6 = .ok (.invokestatic 83, 3) := by decide +kernel
theorem dX0_aloneWorks_9 : decode cX0_aloneWorks 9 = .ok (.istore_n 2, 1) := by decide +kernel
theorem dX0_aloneWorks_10 : decode cX0_aloneWorks 10 = .ok (.iconst 0, 1) := by decide +kernel
theorem dX0_aloneWorks_11 : decode cX0_aloneWorks 11 = .ok (.istore_n 3, 1) := by decide +kernel
theorem dX0_aloneWorks_12 : decode cX0_aloneWorks 12 = .ok (.iload_n 3, 1) := by decide +kernel
theorem dX0_aloneWorks_13 : decode cX0_aloneWorks 13 = .ok (.bipush 10, 2) := by decide +kernel
theorem dX0_aloneWorks_15 : decode cX0_aloneWorks 15 = .ok (.if_icmp .ge 36, 3) := by decide +kernel
theorem dX0_aloneWorks_18 : decode cX0_aloneWorks 18 = .ok (.aload_n 0, 1) := by decide +kernel
theorem dX0_aloneWorks_19 : decode cX0_aloneWorks 19 = .ok (.iload_n 3, 1) := by decide +kernel
theorem dX0_aloneWorks_20 : decode cX0_aloneWorks 20 = .ok (.invokevirtual 60, 3) := by decide +kernel
theorem dX0_aloneWorks_23 : decode cX0_aloneWorks 23 = .ok (.ifCond .eq 22, 3) := by decide +kernel
theorem dX0_aloneWorks_26 : decode cX0_aloneWorks 26 = .ok (.iload_n 2, 1) := by decide +kernel
theorem dX0_aloneWorks_27 : decode cX0_aloneWorks 27 = .ok (.aload_n 0, 1) := by decide +kernel
theorem dX0_aloneWorks_28 : decode cX0_aloneWorks 28 = .ok (.getfield 18, 3) := by decide +kernel
theorem dX0_aloneWorks_31 : decode cX0_aloneWorks 31 = .ok (.iload_n 3, 1) := by decide +kernel
theorem dX0_aloneWorks_32 : decode cX0_aloneWorks 32 = .ok (.iaload, 1) := by decide +kernel
theorem dX0_aloneWorks_33 : decode cX0_aloneWorks 33 = .ok (.invokestatic 86, 3) := by decide +kernel
theorem dX0_aloneWorks_36 : decode cX0_aloneWorks 36 = .ok (.ifCond .ne 9, 3) := by decide +kernel
theorem dX0_aloneWorks_39 : decode cX0_aloneWorks 39 = .ok (.iload_n 1, 1) := by decide +kernel
theorem dX0_aloneWorks_40 : decode cX0_aloneWorks 40 = .ok (.iconst 1, 1) := by decide +kernel
theorem dX0_aloneWorks_41 : decode cX0_aloneWorks 41 = .ok (.iload_n 3, 1) := by decide +kernel
theorem dX0_aloneWorks_42 : decode cX0_aloneWorks 42 = .ok (.ishl, 1) := by decide +kernel
theorem dX0_aloneWorks_43 : decode cX0_aloneWorks 43 = .ok (.ior, 1) := by decide +kernel
theorem dX0_aloneWorks_44 : decode cX0_aloneWorks 44 = .ok (.istore_n 1, 1) := by decide +kernel
theorem dX0_aloneWorks_45 : decode cX0_aloneWorks 45 = .ok (.iinc 3 1, 3) := by decide +kernel
theorem dX0_aloneWorks_48 : decode cX0_aloneWorks 48 = .ok (.goto (-36), 3) := by decide +kernel
theorem dX0_aloneWorks_51 : decode cX0_aloneWorks 51 = .ok (.iload_n 1, 1) := by decide +kernel
theorem dX0_aloneWorks_52 : decode cX0_aloneWorks 52 = .ok (.ireturn, 1) := by decide +kernel
abbrev A0_aloneWorks (G : GG) (Q : Int32 → MM → Prop) := AW G E0 (MZ G (qI Q)) (WY yX0_aloneWorks cX0_aloneWorks 4 (some .int)) RX0 cX0_aloneWorks 4 (some .int) ({ frames := 2, cells := 0, slots := 0, locals := 43 } : Room) 0 0
def D0_aloneWorks_c45 (b : Nat) (K12 : Int32 → Int32 → Int32 → MM → Prop) (Q : Int32 → MM → Prop) (x1 : Int32) (x2 : Int32) (x3 : Int32) (M : MM) : Prop := (fun v10 : Int32 => K12 x1 x2 v10 M) (x3 + (1 : Int32))
def D0_aloneWorks_c12 (b : Nat) (Q : Int32 → MM → Prop) : Nat → Int32 → Int32 → Int32 → MM → Prop
  | 0, _, _, _, _ => False
  | n + 1, x1, x2, x3, M => (((10 : Int32) ≤ x3 → Q x1 M) ∧ (¬ (10 : Int32) ≤ x3 → D0_stands b x3 M (fun (r5 : Int32) (M6 : MM) => ((r5 = 0 → D0_aloneWorks_c45 b (D0_aloneWorks_c12 b Q n) Q x1 x2 x3 M6) ∧ (¬ r5 = 0 → ib (b + 3) x3 ∧ D3_has x2 (M6 (b + 3) (ix x3)) M6 (fun (r7 : Int32) (M8 : MM) => ((r7 ≠ 0 → D0_aloneWorks_c45 b (D0_aloneWorks_c12 b Q n) Q x1 x2 x3 M8) ∧ (r7 = 0 → (fun v9 : Int32 => D0_aloneWorks_c45 b (D0_aloneWorks_c12 b Q n) Q v9 x2 x3 M8) (x1 ||| ((1 : Int32) <<< (x3 &&& 31)))))))))))
def D0_aloneWorks (b : Nat) (M : MM) (Q : Int32 → MM → Prop) : Prop := D0_standingCells b M (fun (r1 : Int32) (M2 : MM) => D3_beside r1 M2 (fun (r3 : Int32) (M4 : MM) => D0_aloneWorks_c12 b Q FU (0 : Int32) r3 (0 : Int32) M4))
set_option maxHeartbeats 4000000 in
set_option maxRecDepth 100000 in
theorem s0_aloneWorks_c45 {G : GG} {b : Nat} (hb : ob b 0) {K12 : Int32 → Int32 → Int32 → MM → Prop} {Q : Int32 → MM → Prop} (hK12 : ∀ (x1 : Int32) (x2 : Int32) (x3 : Int32) (M : MM), K12 x1 x2 x3 M → A0_aloneWorks G Q 12 [(0, .ref (gA G b)), (1, .int x1), (2, .int x2), (3, .int x3)] [] M) : ∀ (x1 : Int32) (x2 : Int32) (x3 : Int32) (M : MM), D0_aloneWorks_c45 b K12 Q x1 x2 x3 M → A0_aloneWorks G Q 45 [(0, .ref (gA G b)), (1, .int x1), (2, .int x2), (3, .int x3)] [] M := by
  intro x1 x2 x3 M h
  unfold D0_aloneWorks_c45 at h
  refine a_iinc (L' := [(3, .int _), (0, .ref _), (1, .int _), (2, .int _)]) dX0_aloneWorks_45 3 rfl (show _ + Int32.ofInt (1 : Int) = _ + (1 : Int32) from rfl) (by decide) rfl ?_
  refine a_goto (tgt := 12) dX0_aloneWorks_48 (by decide) ?_
  refine a_sub [1, 2, 3, 0] rfl ?_
  exact hK12 _ _ _ _ h
set_option maxHeartbeats 4000000 in
set_option maxRecDepth 100000 in
theorem s0_aloneWorks_c12 {G : GG} {b : Nat} (hb : ob b 0) {Q : Int32 → MM → Prop} : ∀ (n : Nat) (x1 : Int32) (x2 : Int32) (x3 : Int32) (M : MM), D0_aloneWorks_c12 b Q n x1 x2 x3 M → A0_aloneWorks G Q 12 [(0, .ref (gA G b)), (1, .int x1), (2, .int x2), (3, .int x3)] [] M := by
  intro n
  induction n with
  | zero => intro x1 x2 x3 M h; exact h.elim
  | succ n ih =>
    intro x1 x2 x3 M h
    unfold D0_aloneWorks_c12 at h
    refine a_iload_n dX0_aloneWorks_12 3 rfl ?_
    refine a_bipush (v := 10) dX0_aloneWorks_13 (by decide) ?_
    refine a_icmp_ge (tgt := 51) dX0_aloneWorks_15 (by decide) (fun c => ?_) (fun c => ?_)
    · have h := h.1 c
      refine a_iload_n dX0_aloneWorks_51 1 rfl ?_
      exact a_iret dX0_aloneWorks_52 ⟨_, rfl, h⟩
    · have h := h.2 c
      refine a_aload_n dX0_aloneWorks_18 0 rfl ?_
      refine a_iload_n dX0_aloneWorks_19 3 rfl ?_
      refine a_callVi (n := 1) [.int _] (C := RX0) (ci := 0) (qc := (RX0, TX0, 9)) (fsF := fl0 G _) hb.1 (fun _ => en0 hb.2) rfl rfl dX0_aloneWorks_20 (s0_stands hb h) (gV tbc kM_RX0_60_X0_stands kI_X0_stands kS_X0_stands kN_RX0 kC_X0_stands) rfl (by decide +kernel) ⟨Nat.le_of_ble_eq_true rfl, Nat.le_of_ble_eq_true rfl⟩ rfl rfl (Nat.le_of_ble_eq_true rfl) ⟨Nat.le_refl 0, Nat.le_refl 0⟩ (fun r M h => ?_)
      refine a_if_eq (tgt := 45) dX0_aloneWorks_23 (by decide) (fun c => ?_) (fun c => ?_)
      · have h := h.1 c
        refine a_sub [0, 1, 2, 3] rfl ?_
        exact s0_aloneWorks_c45 hb ih _ _ _ _ h
      · have h := h.2 c
        refine a_iload_n dX0_aloneWorks_26 2 rfl ?_
        refine a_aload_n dX0_aloneWorks_27 0 rfl ?_
        refine a_get0 dX0_aloneWorks_28 2 (by decide) (tbc _ kF_RX0_18) (fun w h => tbc _ (uW0 w h)) rfl hb rfl ?_
        refine a_iload_n dX0_aloneWorks_31 3 rfl ?_
        refine a_iald dX0_aloneWorks_32 h.1 ?_
        have h := h.2
        refine a_callSi (n := 2) [.int _, .int _] dX0_aloneWorks_33 (s3_has h) (gS tbc kM_RX0_86_X3_has kT_X3_has kN_RX3 kC_X3_has) rfl (by decide +kernel) ⟨Nat.le_of_ble_eq_true rfl, Nat.le_of_ble_eq_true rfl⟩ rfl rfl (Nat.le_of_ble_eq_true rfl) ⟨Nat.le_refl 0, Nat.le_refl 0⟩ (fun r M h => ?_)
        refine a_if_ne (tgt := 45) dX0_aloneWorks_36 (by decide) (fun c => ?_) (fun c => ?_)
        · have h := h.1 c
          refine a_sub [0, 1, 2, 3] rfl ?_
          exact s0_aloneWorks_c45 hb ih _ _ _ _ h
        · have h := h.2 c
          refine a_iload_n dX0_aloneWorks_39 1 rfl ?_
          refine a_iconst (v := 1) dX0_aloneWorks_40 (by decide) ?_
          refine a_iload_n dX0_aloneWorks_41 3 rfl ?_
          refine a_ishl dX0_aloneWorks_42 ?_
          refine a_ior dX0_aloneWorks_43 ?_
          refine a_istore_n (i := 1) (L' := [(1, .int _), (0, .ref _), (2, .int _), (3, .int _)]) dX0_aloneWorks_44 rfl (by decide) rfl ?_
          refine a_sub [1, 0, 2, 3] rfl ?_
          exact s0_aloneWorks_c45 hb ih _ _ _ _ h
set_option maxHeartbeats 4000000 in
set_option maxRecDepth 100000 in
theorem s0_aloneWorks {G : GG} {b : Nat} (hb : ob b 0) {M : MM} {Q : Int32 → MM → Prop} (h : D0_aloneWorks b M Q) : CM G yX0_aloneWorks (WY yX0_aloneWorks cX0_aloneWorks 4 (some .int)) 2 43 [.ref (gA G b)] M (qI Q) := by
  refine CM.of (cc := cX0_aloneWorks) (nL := 4) (ret := (some .int)) (own := RX0) (by decide +kernel) rfl rfl (Nat.le_of_ble_eq_true rfl) ?_
  show A0_aloneWorks G Q 0 [(0, .ref (gA G b))] [] M
  unfold D0_aloneWorks at h
  refine a_iconst (v := 0) dX0_aloneWorks_0 (by decide) ?_
  refine a_istore_n (i := 1) (L' := [(1, .int _), (0, .ref _)]) dX0_aloneWorks_1 rfl (by decide) rfl ?_
  refine a_aload_n dX0_aloneWorks_2 1 rfl ?_
  refine a_callVi (n := 0) [] (C := RX0) (ci := 0) (qc := (RX0, TX0, 9)) (fsF := fl0 G _) hb.1 (fun _ => en0 hb.2) rfl rfl dX0_aloneWorks_3 (s0_standingCells hb h) (gV tbc kM_RX0_120_X0_standingCells kI_X0_standingCells kS_X0_standingCells kN_RX0 kC_X0_standingCells) rfl (by decide +kernel) ⟨Nat.le_of_ble_eq_true rfl, Nat.le_of_ble_eq_true rfl⟩ rfl rfl (Nat.le_of_ble_eq_true rfl) ⟨Nat.le_refl 0, Nat.le_refl 0⟩ (fun r M h => ?_)
  refine a_callSi (n := 1) [.int _] dX0_aloneWorks_6 (s3_beside h) (gS tbc kM_RX0_83_X3_beside kT_X3_beside kN_RX3 kC_X3_beside) rfl (by decide +kernel) ⟨Nat.le_of_ble_eq_true rfl, Nat.le_of_ble_eq_true rfl⟩ rfl rfl (Nat.le_of_ble_eq_true rfl) ⟨Nat.le_refl 0, Nat.le_refl 0⟩ (fun r M h => ?_)
  refine a_istore_n (i := 2) (L' := [(2, .int _), (1, .int _), (0, .ref _)]) dX0_aloneWorks_9 rfl (by decide) rfl ?_
  refine a_iconst (v := 0) dX0_aloneWorks_10 (by decide) ?_
  refine a_istore_n (i := 3) (L' := [(3, .int _), (2, .int _), (1, .int _), (0, .ref _)]) dX0_aloneWorks_11 rfl (by decide) rfl ?_
  refine a_sub [3, 2, 1, 0] rfl ?_
  exact s0_aloneWorks_c12 hb _ _ _ _ _ h

/-! X0_wetAt -/
theorem dX0_wetAt_0 : decode cX0_wetAt 0 = .ok (.iload_n 1, 1) := by decide +kernel
theorem dX0_wetAt_1 : decode cX0_wetAt 1 = .ok (.invokestatic 93, 3) := by decide +kernel
theorem dX0_wetAt_4 : decode cX0_wetAt 4 = .ok (.istore_n 2, 1) := by decide +kernel
theorem dX0_wetAt_5 : decode cX0_wetAt 5 = .ok (.iconst 0, 1) := by decide +kernel
theorem dX0_wetAt_6 : decode cX0_wetAt 6 = .ok (.istore_n 3, 1) := by decide +kernel
theorem dX0_wetAt_7 : decode cX0_wetAt 7 = .ok (.iload_n 3, 1) := by decide +kernel
theorem dX0_wetAt_8 : decode cX0_wetAt 8 = .ok (.bipush 10, 2) := by decide +kernel
theorem dX0_wetAt_10 : decode cX0_wetAt 10 = .ok (.if_icmp .ge 42, 3) := by decide +kernel
theorem dX0_wetAt_13 : decode cX0_wetAt 13 = .ok (.aload_n 0, 1) := by decide +kernel
theorem dX0_wetAt_14 : decode cX0_wetAt 14 = .ok (.iload_n 3, 1) := by decide +kernel
theorem dX0_wetAt_15 : decode cX0_wetAt 15 = .ok (.invokevirtual 60, 3) := by decide +kernel
theorem dX0_wetAt_18 : decode cX0_wetAt 18 = .ok (.ifCond .eq 28, 3) := by decide +kernel
theorem dX0_wetAt_21 : decode cX0_wetAt 21 = .ok (.aload_n 0, 1) := by decide +kernel
theorem dX0_wetAt_22 : decode cX0_wetAt 22 = .ok (.getfield 11, 3) := by decide +kernel
theorem dX0_wetAt_25 : decode cX0_wetAt 25 = .ok (.iload_n 3, 1) := by decide +kernel
theorem dX0_wetAt_26 : decode cX0_wetAt 26 = .ok (.iaload, 1) := by decide +kernel
theorem dX0_wetAt_27 : decode cX0_wetAt 27 = .ok (.invokestatic 96, 3) := by decide +kernel
theorem dX0_wetAt_30 : decode cX0_wetAt 30 = .ok (.ifCond .eq 16, 3) := by decide +kernel
theorem dX0_wetAt_33 : decode cX0_wetAt 33 = .ok (.iload_n 2, 1) := by decide +kernel
theorem dX0_wetAt_34 : decode cX0_wetAt 34 = .ok (.iconst 1, 1) := by decide +kernel
theorem dX0_wetAt_35 : decode cX0_wetAt 35 = .ok (.aload_n 0, 1) := by decide +kernel
theorem dX0_wetAt_36 : decode cX0_wetAt 36 = .ok (.getfield 18, 3) := by decide +kernel
theorem dX0_wetAt_39 : decode cX0_wetAt 39 = .ok (.iload_n 3, 1) := by decide +kernel
theorem dX0_wetAt_40 : decode cX0_wetAt 40 = .ok (.iaload, 1) := by decide +kernel
theorem dX0_wetAt_41 : decode cX0_wetAt 41 = .ok (.ishl, 1) := by decide +kernel
theorem dX0_wetAt_42 : decode cX0_wetAt 42 = .ok (.iconst (-1), 1) := by decide +kernel
theorem dX0_wetAt_43 : decode cX0_wetAt 43 = .ok (.ixor, 1) := by decide +kernel
theorem dX0_wetAt_44 : decode cX0_wetAt 44 = .ok (.iand, 1) := by decide +kernel
theorem dX0_wetAt_45 : decode cX0_wetAt 45 = .ok (.istore_n 2, 1) := by decide +kernel
theorem dX0_wetAt_46 : decode cX0_wetAt 46 = .ok (.iinc 3 1, 3) := by decide +kernel
theorem dX0_wetAt_49 : decode cX0_wetAt 49 = .ok (.goto (-42), 3) := by decide +kernel
theorem dX0_wetAt_52 : decode cX0_wetAt 52 = .ok (.iconst 0, 1) := by decide +kernel
theorem dX0_wetAt_53 : decode cX0_wetAt 53 = .ok (.istore_n 3, 1) := by decide +kernel
theorem dX0_wetAt_54 : decode cX0_wetAt 54 = .ok (.iload_n 2, 1) := by decide +kernel
theorem dX0_wetAt_55 : decode cX0_wetAt 55 = .ok (.ldc 99, 2) := by decide +kernel
theorem dX0_wetAt_57 : decode cX0_wetAt 57 = .ok (.iand, 1) := by decide +kernel
theorem dX0_wetAt_58 : decode cX0_wetAt 58 = .ok (.istore 4, 2) := by decide +kernel
theorem dX0_wetAt_60 : decode cX0_wetAt 60 = .ok (.iconst 0, 1) := by decide +kernel
theorem dX0_wetAt_61 : decode cX0_wetAt 61 = .ok (.istore 5, 2) := by decide +kernel
theorem dX0_wetAt_63 : decode cX0_wetAt 63 = .ok (.iload 5, 2) := by decide +kernel
theorem dX0_wetAt_65 : decode cX0_wetAt 65 = .ok (.bipush 25, 2) := by decide +kernel
theorem dX0_wetAt_67 : decode cX0_wetAt 67 = .ok (.if_icmp .ge 28, 3) := by decide +kernel
theorem dX0_wetAt_70 : decode cX0_wetAt 70 = .ok (.iload 4, 2) := by decide +kernel
theorem dX0_wetAt_72 : decode cX0_wetAt 72 = .ok (.iload_n 3, 1) := by decide +kernel
theorem dX0_wetAt_73 : decode cX0_wetAt 73 = .ok (.if_icmp .eq 22, 3) := by decide +kernel
theorem dX0_wetAt_76 : decode cX0_wetAt 76 = .ok (.iload 4, 2) := by decide +kernel
theorem dX0_wetAt_78 : decode cX0_wetAt 78 = .ok (.istore_n 3, 1) := by decide +kernel
theorem dX0_wetAt_79 : decode cX0_wetAt 79 = .ok (.iload_n 3, 1) := by decide +kernel
theorem dX0_wetAt_80 : decode cX0_wetAt 80 = .ok (.iload_n 3, 1) := by decide +kernel
theorem dX0_wetAt_81 : decode cX0_wetAt 81 = .ok (.invokestatic 83, 3) := by decide +kernel
theorem dX0_wetAt_84 : decode cX0_wetAt 84 = .ok (.iload_n 2, 1) := by decide +kernel
theorem dX0_wetAt_85 : decode cX0_wetAt 85 = .ok (.iand, 1) := by decide +kernel
theorem dX0_wetAt_86 : decode cX0_wetAt 86 = .ok (.ior, 1) := by decide +kernel
theorem dX0_wetAt_87 : decode cX0_wetAt 87 = .ok (.istore 4, 2) := by decide +kernel
theorem dX0_wetAt_89 : decode cX0_wetAt 89 = .ok (.iinc 5 1, 3) := by decide +kernel
theorem dX0_wetAt_92 : decode cX0_wetAt 92 = .ok (.goto (-29), 3) := by decide +kernel
theorem dX0_wetAt_95 : decode cX0_wetAt 95 = .ok (.iload_n 3, 1) := by decide +kernel
theorem dX0_wetAt_96 : decode cX0_wetAt 96 = .ok (.ireturn, 1) := by decide +kernel
abbrev A0_wetAt (G : GG) (Q : Int32 → MM → Prop) := AW G E0 (MZ G (qI Q)) (WY yX0_wetAt cX0_wetAt 6 (some .int)) RX0 cX0_wetAt 6 (some .int) ({ frames := 1, cells := 0, slots := 0, locals := 21 } : Room) 0 0
def D0_wetAt_c46 (b : Nat) (K7 : Int32 → Int32 → MM → Prop) (Q : Int32 → MM → Prop) (x2 : Int32) (x3 : Int32) (M : MM) : Prop := (fun v9 : Int32 => K7 x2 v9 M) (x3 + (1 : Int32))
def D0_wetAt_c63 (b : Nat) (Q : Int32 → MM → Prop) : Nat → Int32 → Int32 → Int32 → Int32 → MM → Prop
  | 0, _, _, _, _, _ => False
  | n + 1, x2, x3, x4, x5, M => (((25 : Int32) ≤ x5 → Q x3 M) ∧ (¬ (25 : Int32) ≤ x5 → ((x4 = x3 → Q x3 M) ∧ (¬ x4 = x3 → D3_beside x4 M (fun (r10 : Int32) (M11 : MM) => (fun v12 : Int32 => (fun v13 : Int32 => D0_wetAt_c63 b Q n x2 x4 v12 v13 M11) (x5 + (1 : Int32))) (x4 ||| (r10 &&& x2)))))))
def D0_wetAt_c52 (b : Nat) (Q : Int32 → MM → Prop) (x2 : Int32) (M : MM) : Prop := (fun v8 : Int32 => D0_wetAt_c63 b Q FU x2 (0 : Int32) v8 (0 : Int32) M) (x2 &&& (32505856 : Int32))
def D0_wetAt_c7 (b : Nat) (Q : Int32 → MM → Prop) : Nat → Int32 → Int32 → MM → Prop
  | 0, _, _, _ => False
  | n + 1, x2, x3, M => (((10 : Int32) ≤ x3 → D0_wetAt_c52 b Q x2 M) ∧ (¬ (10 : Int32) ≤ x3 → D0_stands b x3 M (fun (r3 : Int32) (M4 : MM) => ((r3 = 0 → D0_wetAt_c46 b (D0_wetAt_c7 b Q n) Q x2 x3 M4) ∧ (¬ r3 = 0 → ib (b + 1) x3 ∧ D1_stopsSea (M4 (b + 1) (ix x3)) M4 (fun (r5 : Int32) (M6 : MM) => ((r5 = 0 → D0_wetAt_c46 b (D0_wetAt_c7 b Q n) Q x2 x3 M6) ∧ (¬ r5 = 0 → ib (b + 3) x3 ∧ (fun v7 : Int32 => D0_wetAt_c46 b (D0_wetAt_c7 b Q n) Q v7 x3 M6) (x2 &&& (((1 : Int32) <<< ((M6 (b + 3) (ix x3)) &&& 31)) ^^^ (-1 : Int32)))))))))))
def D0_wetAt (b : Nat) (x1 : Int32) (M : MM) (Q : Int32 → MM → Prop) : Prop := D3_lowestRows x1 M (fun (r1 : Int32) (M2 : MM) => D0_wetAt_c7 b Q FU r1 (0 : Int32) M2)
set_option maxHeartbeats 4000000 in
set_option maxRecDepth 100000 in
theorem s0_wetAt_c46 {G : GG} {b : Nat} (hb : ob b 0) {K7 : Int32 → Int32 → MM → Prop} {Q : Int32 → MM → Prop} (hK7 : ∀ (x2 : Int32) (x3 : Int32) (M : MM), K7 x2 x3 M → A0_wetAt G Q 7 [(0, .ref (gA G b)), (2, .int x2), (3, .int x3)] [] M) : ∀ (x2 : Int32) (x3 : Int32) (M : MM), D0_wetAt_c46 b K7 Q x2 x3 M → A0_wetAt G Q 46 [(0, .ref (gA G b)), (2, .int x2), (3, .int x3)] [] M := by
  intro x2 x3 M h
  unfold D0_wetAt_c46 at h
  refine a_iinc (L' := [(3, .int _), (0, .ref _), (2, .int _)]) dX0_wetAt_46 2 rfl (show _ + Int32.ofInt (1 : Int) = _ + (1 : Int32) from rfl) (by decide) rfl ?_
  refine a_goto (tgt := 7) dX0_wetAt_49 (by decide) ?_
  refine a_sub [1, 2, 0] rfl ?_
  exact hK7 _ _ _ h
set_option maxHeartbeats 4000000 in
set_option maxRecDepth 100000 in
theorem s0_wetAt_c63 {G : GG} {b : Nat} (hb : ob b 0) {Q : Int32 → MM → Prop} : ∀ (n : Nat) (x2 : Int32) (x3 : Int32) (x4 : Int32) (x5 : Int32) (M : MM), D0_wetAt_c63 b Q n x2 x3 x4 x5 M → A0_wetAt G Q 63 [(2, .int x2), (3, .int x3), (4, .int x4), (5, .int x5)] [] M := by
  intro n
  induction n with
  | zero => intro x2 x3 x4 x5 M h; exact h.elim
  | succ n ih =>
    intro x2 x3 x4 x5 M h
    unfold D0_wetAt_c63 at h
    refine a_iload dX0_wetAt_63 3 rfl ?_
    refine a_bipush (v := 25) dX0_wetAt_65 (by decide) ?_
    refine a_icmp_ge (tgt := 95) dX0_wetAt_67 (by decide) (fun c => ?_) (fun c => ?_)
    · have h := h.1 c
      refine a_iload_n dX0_wetAt_95 1 rfl ?_
      exact a_iret dX0_wetAt_96 ⟨_, rfl, h⟩
    · have h := h.2 c
      refine a_iload dX0_wetAt_70 2 rfl ?_
      refine a_iload_n dX0_wetAt_72 1 rfl ?_
      refine a_icmp_eq (tgt := 95) dX0_wetAt_73 (by decide) (fun c => ?_) (fun c => ?_)
      · have h := h.1 c
        refine a_iload_n dX0_wetAt_95 1 rfl ?_
        exact a_iret dX0_wetAt_96 ⟨_, rfl, h⟩
      · have h := h.2 c
        refine a_iload dX0_wetAt_76 2 rfl ?_
        refine a_istore_n (i := 3) (L' := [(3, .int _), (2, .int _), (4, .int _), (5, .int _)]) dX0_wetAt_78 rfl (by decide) rfl ?_
        refine a_iload_n dX0_wetAt_79 0 rfl ?_
        refine a_iload_n dX0_wetAt_80 0 rfl ?_
        refine a_callSi (n := 1) [.int _] dX0_wetAt_81 (s3_beside h) (gS tbc kM_RX0_83_X3_beside kT_X3_beside kN_RX3 kC_X3_beside) rfl (by decide +kernel) ⟨Nat.le_of_ble_eq_true rfl, Nat.le_of_ble_eq_true rfl⟩ rfl rfl (Nat.le_of_ble_eq_true rfl) ⟨Nat.le_refl 0, Nat.le_refl 0⟩ (fun r M h => ?_)
        refine a_iload_n dX0_wetAt_84 1 rfl ?_
        refine a_iand dX0_wetAt_85 ?_
        refine a_ior dX0_wetAt_86 ?_
        refine a_istore (i := 4) (L' := [(4, .int _), (3, .int _), (2, .int _), (5, .int _)]) dX0_wetAt_87 (by decide) rfl ?_
        refine a_iinc (L' := [(5, .int _), (4, .int _), (3, .int _), (2, .int _)]) dX0_wetAt_89 3 rfl (show _ + Int32.ofInt (1 : Int) = _ + (1 : Int32) from rfl) (by decide) rfl ?_
        refine a_goto (tgt := 63) dX0_wetAt_92 (by decide) ?_
        refine a_sub [3, 2, 1, 0] rfl ?_
        exact ih _ _ _ _ _ h
set_option maxHeartbeats 4000000 in
set_option maxRecDepth 100000 in
theorem s0_wetAt_c52 {G : GG} {b : Nat} (hb : ob b 0) {Q : Int32 → MM → Prop} : ∀ (x2 : Int32) (M : MM), D0_wetAt_c52 b Q x2 M → A0_wetAt G Q 52 [(2, .int x2)] [] M := by
  intro x2 M h
  unfold D0_wetAt_c52 at h
  refine a_iconst (v := 0) dX0_wetAt_52 (by decide) ?_
  refine a_istore_n (i := 3) (L' := [(3, .int _), (2, .int _)]) dX0_wetAt_53 rfl (by decide) rfl ?_
  refine a_iload_n dX0_wetAt_54 1 rfl ?_
  refine a_ldc dX0_wetAt_55 (tbc _ kK_RX0_99) ?_
  refine a_iand dX0_wetAt_57 ?_
  refine a_istore (i := 4) (L' := [(4, .int _), (3, .int _), (2, .int _)]) dX0_wetAt_58 (by decide) rfl ?_
  refine a_iconst (v := 0) dX0_wetAt_60 (by decide) ?_
  refine a_istore (i := 5) (L' := [(5, .int _), (4, .int _), (3, .int _), (2, .int _)]) dX0_wetAt_61 (by decide) rfl ?_
  refine a_sub [3, 2, 1, 0] rfl ?_
  exact s0_wetAt_c63 hb _ _ _ _ _ _ h
set_option maxHeartbeats 4000000 in
set_option maxRecDepth 100000 in
theorem s0_wetAt_c7 {G : GG} {b : Nat} (hb : ob b 0) {Q : Int32 → MM → Prop} : ∀ (n : Nat) (x2 : Int32) (x3 : Int32) (M : MM), D0_wetAt_c7 b Q n x2 x3 M → A0_wetAt G Q 7 [(0, .ref (gA G b)), (2, .int x2), (3, .int x3)] [] M := by
  intro n
  induction n with
  | zero => intro x2 x3 M h; exact h.elim
  | succ n ih =>
    intro x2 x3 M h
    unfold D0_wetAt_c7 at h
    refine a_iload_n dX0_wetAt_7 2 rfl ?_
    refine a_bipush (v := 10) dX0_wetAt_8 (by decide) ?_
    refine a_icmp_ge (tgt := 52) dX0_wetAt_10 (by decide) (fun c => ?_) (fun c => ?_)
    · have h := h.1 c
      refine a_sub [1] rfl ?_
      exact s0_wetAt_c52 hb _ _ h
    · have h := h.2 c
      refine a_aload_n dX0_wetAt_13 0 rfl ?_
      refine a_iload_n dX0_wetAt_14 2 rfl ?_
      refine a_callVi (n := 1) [.int _] (C := RX0) (ci := 0) (qc := (RX0, TX0, 9)) (fsF := fl0 G _) hb.1 (fun _ => en0 hb.2) rfl rfl dX0_wetAt_15 (s0_stands hb h) (gV tbc kM_RX0_60_X0_stands kI_X0_stands kS_X0_stands kN_RX0 kC_X0_stands) rfl (by decide +kernel) ⟨Nat.le_of_ble_eq_true rfl, Nat.le_of_ble_eq_true rfl⟩ rfl rfl (Nat.le_of_ble_eq_true rfl) ⟨Nat.le_refl 0, Nat.le_refl 0⟩ (fun r M h => ?_)
      refine a_if_eq (tgt := 46) dX0_wetAt_18 (by decide) (fun c => ?_) (fun c => ?_)
      · have h := h.1 c
        refine a_sub [0, 1, 2] rfl ?_
        exact s0_wetAt_c46 hb ih _ _ _ h
      · have h := h.2 c
        refine a_aload_n dX0_wetAt_21 0 rfl ?_
        refine a_get0 dX0_wetAt_22 0 (by decide) (tbc _ kF_RX0_11) (fun w h => tbc _ (uW0 w h)) rfl hb rfl ?_
        refine a_iload_n dX0_wetAt_25 2 rfl ?_
        refine a_iald dX0_wetAt_26 h.1 ?_
        have h := h.2
        refine a_callSi (n := 1) [.int _] dX0_wetAt_27 (s1_stopsSea h) (gS tbc kM_RX0_96_X1_stopsSea kT_X1_stopsSea kN_RX1 kC_X1_stopsSea) rfl (by decide +kernel) ⟨Nat.le_of_ble_eq_true rfl, Nat.le_of_ble_eq_true rfl⟩ rfl rfl (Nat.le_of_ble_eq_true rfl) ⟨Nat.le_refl 0, Nat.le_refl 0⟩ (fun r M h => ?_)
        refine a_if_eq (tgt := 46) dX0_wetAt_30 (by decide) (fun c => ?_) (fun c => ?_)
        · have h := h.1 c
          refine a_sub [0, 1, 2] rfl ?_
          exact s0_wetAt_c46 hb ih _ _ _ h
        · have h := h.2 c
          refine a_iload_n dX0_wetAt_33 1 rfl ?_
          refine a_iconst (v := 1) dX0_wetAt_34 (by decide) ?_
          refine a_aload_n dX0_wetAt_35 0 rfl ?_
          refine a_get0 dX0_wetAt_36 2 (by decide) (tbc _ kF_RX0_18) (fun w h => tbc _ (uW0 w h)) rfl hb rfl ?_
          refine a_iload_n dX0_wetAt_39 2 rfl ?_
          refine a_iald dX0_wetAt_40 h.1 ?_
          have h := h.2
          refine a_ishl dX0_wetAt_41 ?_
          refine a_iconst (v := -1) dX0_wetAt_42 (by decide) ?_
          refine a_ixor dX0_wetAt_43 ?_
          refine a_iand dX0_wetAt_44 ?_
          refine a_istore_n (i := 2) (L' := [(2, .int _), (0, .ref _), (3, .int _)]) dX0_wetAt_45 rfl (by decide) rfl ?_
          refine a_sub [1, 0, 2] rfl ?_
          exact s0_wetAt_c46 hb ih _ _ _ h
set_option maxHeartbeats 4000000 in
set_option maxRecDepth 100000 in
theorem s0_wetAt {G : GG} {b : Nat} (hb : ob b 0) {x1 : Int32} {M : MM} {Q : Int32 → MM → Prop} (h : D0_wetAt b x1 M Q) : CM G yX0_wetAt (WY yX0_wetAt cX0_wetAt 6 (some .int)) 1 21 [.ref (gA G b), .int x1] M (qI Q) := by
  refine CM.of (cc := cX0_wetAt) (nL := 6) (ret := (some .int)) (own := RX0) (by decide +kernel) rfl rfl (Nat.le_of_ble_eq_true rfl) ?_
  show A0_wetAt G Q 0 [(0, .ref (gA G b)), (1, .int x1)] [] M
  unfold D0_wetAt at h
  refine a_iload_n dX0_wetAt_0 1 rfl ?_
  refine a_callSi (n := 1) [.int _] dX0_wetAt_1 (s3_lowestRows h) (gS tbc kM_RX0_93_X3_lowestRows kT_X3_lowestRows kN_RX3 kC_X3_lowestRows) rfl (by decide +kernel) ⟨Nat.le_of_ble_eq_true rfl, Nat.le_of_ble_eq_true rfl⟩ rfl rfl (Nat.le_of_ble_eq_true rfl) ⟨Nat.le_refl 0, Nat.le_refl 0⟩ (fun r M h => ?_)
  refine a_istore_n (i := 2) (L' := [(2, .int _), (0, .ref _), (1, .int _)]) dX0_wetAt_4 rfl (by decide) rfl ?_
  refine a_iconst (v := 0) dX0_wetAt_5 (by decide) ?_
  refine a_istore_n (i := 3) (L' := [(3, .int _), (2, .int _), (0, .ref _), (1, .int _)]) dX0_wetAt_6 rfl (by decide) rfl ?_
  refine a_sub [2, 1, 0] rfl ?_
  exact s0_wetAt_c7 hb _ _ _ _ h

/-! X0_anHour -/
theorem dX0_anHour_0 : decode cX0_anHour 0 = .ok (.aload_n 0, 1) := by decide +kernel
theorem dX0_anHour_1 : decode cX0_anHour 1 = .ok (.dup, 1) := by decide +kernel
theorem dX0_anHour_2 : decode cX0_anHour 2 = .ok (.getfield 31, 3) := by decide +kernel
theorem dX0_anHour_5 : decode cX0_anHour 5 = .ok (.iconst 1, 1) := by decide +kernel
theorem dX0_anHour_6 : decode cX0_anHour 6 = .ok (.iadd, 1) := by decide +kernel
theorem dX0_anHour_7 : decode cX0_anHour 7 = .ok (.putfield 31, 3) := by decide +kernel
theorem dX0_anHour_10 : decode cX0_anHour 10 = .ok (.aload_n 0, 1) := by decide +kernel
theorem dX0_anHour_11 : decode cX0_anHour 11 = .ok (.iconst 5, 1) := by decide +kernel
theorem dX0_anHour_12 : decode cX0_anHour 12 = .ok (.aload_n 0, 1) := by decide +kernel
theorem dX0_anHour_13 : decode cX0_anHour 13 = .ok (.getfield 31, 3) := by decide +kernel
theorem dX0_anHour_16 : decode cX0_anHour 16 = .ok (.invokestatic 74, 3) := by decide +kernel
theorem dX0_anHour_19 : decode cX0_anHour 19 = .ok (.iload_n 1, 1) := by decide +kernel
theorem dX0_anHour_20 : decode cX0_anHour 20 = .ok (.iadd, 1) := by decide +kernel
theorem dX0_anHour_21 : decode cX0_anHour 21 = .ok (.invokestatic 77, 3) := by decide +kernel
theorem dX0_anHour_24 : decode cX0_anHour 24 = .ok (.invokevirtual 80, 3) := by decide +kernel
theorem dX0_anHour_27 : decode cX0_anHour 27 = .ok (.istore_n 3, 1) := by decide +kernel
theorem dX0_anHour_28 : decode cX0_anHour 28 = .ok (.iload_n 3, 1) := by decide +kernel
theorem dX0_anHour_29 : decode cX0_anHour 29 = .ok (.iload_n 3, 1) := by decide +kernel
theorem dX0_anHour_30 : decode cX0_anHour 30 = .ok (.invokestatic 83, 3) := by decide +kernel
theorem dX0_anHour_33 : decode cX0_anHour 33 = .ok (.ior, 1) := by decide +kernel
theorem dX0_anHour_34 : decode cX0_anHour 34 = .ok (.istore 4, 2) := by decide +kernel
theorem dX0_anHour_36 : decode cX0_anHour 36 = .ok (.aload_n 0, 1) := by decide +kernel
theorem dX0_anHour_37 : decode cX0_anHour 37 = .ok (.getfield 28, 3) := by decide +kernel
theorem dX0_anHour_40 : decode cX0_anHour 40 = .ok (.istore 5, 2) := by decide +kernel
theorem dX0_anHour_42 : decode cX0_anHour 42 = .ok (.iconst 0, 1) := by decide +kernel
theorem dX0_anHour_43 : decode cX0_anHour 43 = .ok (.istore 6, 2) := by decide +kernel
theorem dX0_anHour_45 : decode cX0_anHour 45 = .ok (.iload 6, 2) := by decide +kernel
theorem dX0_anHour_47 : decode cX0_anHour 47 = .ok (.bipush 10, 2) := by decide +kernel
theorem dX0_anHour_49 : decode cX0_anHour 49 = .ok (.if_icmp .ge 179, 3) := by decide +kernel
theorem dX0_anHour_52 : decode cX0_anHour 52 = .ok (.aload_n 0, 1) := by decide +kernel
theorem dX0_anHour_53 : decode cX0_anHour 53 = .ok (.iload 6, 2) := by decide +kernel
theorem dX0_anHour_55 : decode cX0_anHour 55 = .ok (.invokevirtual 60, 3) := by decide +kernel
theorem dX0_anHour_58 : decode cX0_anHour 58 = .ok (.ifCond .eq 164, 3) := by decide +kernel
theorem dX0_anHour_61 : decode cX0_anHour 61 = .ok (.iload 4, 2) := by decide +kernel
theorem dX0_anHour_63 : decode cX0_anHour 63 = .ok (.aload_n 0, 1) := by decide +kernel
theorem dX0_anHour_64 : decode cX0_anHour 64 = .ok (.getfield 18, 3) := by decide +kernel
theorem dX0_anHour_67 : decode cX0_anHour 67 = .ok (.iload 6, 2) := by decide +kernel
theorem dX0_anHour_69 : decode cX0_anHour 69 = .ok (.iaload, 1) := by decide +kernel
theorem dX0_anHour_70 : decode cX0_anHour 70 = .ok (.invokestatic 86, 3) := by decide +kernel
theorem dX0_anHour_73 : decode cX0_anHour 73 = .ok (.ifCond .eq 24, 3) := by decide +kernel
theorem dX0_anHour_76 : decode cX0_anHour 76 = .ok (.aload_n 0, 1) := by decide +kernel
theorem dX0_anHour_77 : decode cX0_anHour 77 = .ok (.getfield 21, 3) := by decide +kernel
theorem dX0_anHour_80 : decode cX0_anHour 80 = .ok (.iload 6, 2) := by decide +kernel
theorem dX0_anHour_82 : decode cX0_anHour 82 = .ok (.bipush 99, 2) := by decide +kernel
theorem dX0_anHour_84 : decode cX0_anHour 84 = .ok (.aload_n 0, 1) := by decide +kernel
theorem dX0_anHour_85 : decode cX0_anHour 85 = .ok (.getfield 21, 3) := by decide +kernel
theorem dX0_anHour_88 : decode cX0_anHour 88 = .ok (.iload 6, 2) := by decide +kernel
theorem dX0_anHour_90 : decode cX0_anHour 90 = .ok (.iaload, 1) := by decide +kernel
theorem dX0_anHour_91 : decode cX0_anHour 91 = .ok (.iconst 1, 1) := by decide +kernel
theorem dX0_anHour_92 : decode cX0_anHour 92 = .ok (.iadd, 1) := by decide +kernel
theorem dX0_anHour_93 : decode cX0_anHour 93 = .ok (.invokestatic 77, 3) := by decide +kernel
theorem dX0_anHour_96 : decode cX0_anHour 96 = .ok (.iastore, 1) := by decide +kernel
theorem dX0_anHour_97 : decode cX0_anHour 97 = .ok (.iload_n 3, 1) := by decide +kernel
theorem dX0_anHour_98 : decode cX0_anHour 98 = .ok (.aload_n 0, 1) := by decide +kernel
theorem dX0_anHour_99 : decode cX0_anHour 99 = .ok (.getfield 18, 3) := by decide +kernel
theorem dX0_anHour_102 : decode cX0_anHour 102 = .ok (.iload 6, 2) := by decide +kernel
theorem dX0_anHour_104 : decode cX0_anHour 104 = .ok (.iaload, 1) := by decide +kernel
theorem dX0_anHour_105 : decode cX0_anHour 105 = .ok (.invokestatic 86, 3) := by decide +kernel
theorem dX0_anHour_108 : decode cX0_anHour 108 = .ok (.ifCond .ne 76, 3) := by decide +kernel
theorem dX0_anHour_111 : decode cX0_anHour 111 = .ok (.iload_n 2, 1) := by decide +kernel
theorem dX0_anHour_112 : decode cX0_anHour 112 = .ok (.iload 6, 2) := by decide +kernel
theorem dX0_anHour_114 : decode cX0_anHour 114 = .ok (.ishr, 1) := by decide +kernel
theorem dX0_anHour_115 : decode cX0_anHour 115 = .ok (.iconst 1, 1) := by decide +kernel
theorem dX0_anHour_116 : decode cX0_anHour 116 = .ok (.iand, 1) := by decide +kernel
theorem dX0_anHour_117 : decode cX0_anHour 117 = .ok (.ifCond .ne 67, 3) := by decide +kernel
theorem dX0_anHour_120 : decode cX0_anHour 120 = .ok (.aload_n 0, 1) := by decide +kernel
theorem dX0_anHour_121 : decode cX0_anHour 121 = .ok (.sipush 9999, 3) := by decide +kernel
theorem dX0_anHour_124 : decode cX0_anHour 124 = .ok (.aload_n 0, 1) := by decide +kernel
theorem dX0_anHour_125 : decode cX0_anHour 125 = .ok (.getfield 34, 3) := by decide +kernel
theorem dX0_anHour_128 : decode cX0_anHour 128 = .ok (.aload_n 0, 1) := by decide +kernel
theorem dX0_anHour_129 : decode cX0_anHour 129 = .ok (.getfield 11, 3) := by decide +kernel
theorem dX0_anHour_132 : decode cX0_anHour 132 = .ok (.iload 6, 2) := by decide +kernel
theorem dX0_anHour_134 : decode cX0_anHour 134 = .ok (.iaload, 1) := by decide +kernel
theorem dX0_anHour_135 : decode cX0_anHour 135 = .ok (.aload_n 0, 1) := by decide +kernel
theorem dX0_anHour_136 : decode cX0_anHour 136 = .ok (.getfield 15, 3) := by decide +kernel
theorem dX0_anHour_139 : decode cX0_anHour 139 = .ok (.iload 6, 2) := by decide +kernel
theorem dX0_anHour_141 : decode cX0_anHour 141 = .ok (.iaload, 1) := by decide +kernel
theorem dX0_anHour_142 : decode cX0_anHour 142 = .ok (.invokestatic 90, 3) := by decide +kernel
theorem dX0_anHour_145 : decode cX0_anHour 145 = .ok (.iadd, 1) := by decide +kernel
theorem dX0_anHour_146 : decode cX0_anHour 146 = .ok (.invokestatic 77, 3) := by decide +kernel
theorem dX0_anHour_149 : decode cX0_anHour 149 = .ok (.putfield 34, 3) := by decide +kernel
theorem dX0_anHour_152 : decode cX0_anHour 152 = .ok (.aload_n 0, 1) := by decide +kernel
theorem dX0_anHour_153 : decode cX0_anHour 153 = .ok (.sipush 9999, 3) := by decide +kernel
theorem dX0_anHour_156 : decode cX0_anHour 156 = .ok (.aload_n 0, 1) := by decide +kernel
theorem dX0_anHour_157 : decode cX0_anHour 157 = .ok (.getfield 37, 3) := by decide +kernel
theorem dX0_anHour_160 : decode cX0_anHour 160 = .ok (.aload_n 0, 1) := by decide +kernel
theorem dX0_anHour_161 : decode cX0_anHour 161 = .ok (.getfield 11, 3) := by decide +kernel
theorem dX0_anHour_164 : decode cX0_anHour 164 = .ok (.iload 6, 2) := by decide +kernel
theorem dX0_anHour_166 : decode cX0_anHour 166 = .ok (.iaload, 1) := by decide +kernel
theorem dX0_anHour_167 : decode cX0_anHour 167 = .ok (.aload_n 0, 1) := by decide +kernel
theorem dX0_anHour_168 : decode cX0_anHour 168 = .ok (.getfield 15, 3) := by decide +kernel
theorem dX0_anHour_171 : decode cX0_anHour 171 = .ok (.iload 6, 2) := by decide +kernel
theorem dX0_anHour_173 : decode cX0_anHour 173 = .ok (.iaload, 1) := by decide +kernel
theorem dX0_anHour_174 : decode cX0_anHour 174 = .ok (.invokestatic 57, 3) := by decide +kernel
theorem dX0_anHour_177 : decode cX0_anHour 177 = .ok (.iadd, 1) := by decide +kernel
theorem dX0_anHour_178 : decode cX0_anHour 178 = .ok (.invokestatic 77, 3) := by decide +kernel
theorem dX0_anHour_181 : decode cX0_anHour 181 = .ok (.putfield 37, 3) := by decide +kernel
theorem dX0_anHour_184 : decode cX0_anHour 184 = .ok (.aload_n 0, 1) := by decide +kernel
theorem dX0_anHour_185 : decode cX0_anHour 185 = .ok (.getfield 21, 3) := by decide +kernel
theorem dX0_anHour_188 : decode cX0_anHour 188 = .ok (.iload 6, 2) := by decide +kernel
theorem dX0_anHour_190 : decode cX0_anHour 190 = .ok (.iaload, 1) := by decide +kernel
theorem dX0_anHour_191 : decode cX0_anHour 191 = .ok (.aload_n 0, 1) := by decide +kernel
theorem dX0_anHour_192 : decode cX0_anHour 192 = .ok (.getfield 11, 3) := by decide +kernel
theorem dX0_anHour_195 : decode cX0_anHour 195 = .ok (.iload 6, 2) := by decide +kernel
theorem dX0_anHour_197 : decode cX0_anHour 197 = .ok (.iaload, 1) := by decide +kernel
theorem dX0_anHour_198 : decode cX0_anHour 198 = .ok (.aload_n 0, 1) := by decide +kernel
theorem dX0_anHour_199 : decode cX0_anHour 199 = .ok (.getfield 15, 3) := by decide +kernel
theorem dX0_anHour_202 : decode cX0_anHour 202 = .ok (.iload 6, 2) := by decide +kernel
theorem dX0_anHour_204 : decode cX0_anHour 204 = .ok (.iaload, 1) := by decide +kernel
theorem dX0_anHour_205 : decode cX0_anHour 205 = .ok (.invokestatic 51, 3) := by decide +kernel
theorem dX0_anHour_208 : decode cX0_anHour 208 = .ok (.if_icmp .le 14, 3) := by decide +kernel
theorem dX0_anHour_211 : decode cX0_anHour 211 = .ok (.iload 5, 2) := by decide +kernel
theorem dX0_anHour_213 : decode cX0_anHour 213 = .ok (.iconst 1, 1) := by decide +kernel
theorem dX0_anHour_214 : decode cX0_anHour 214 = .ok (.iload 6, 2) := by decide +kernel
theorem dX0_anHour_216 : decode cX0_anHour 216 = .ok (.ishl, 1) := by decide +kernel
theorem dX0_anHour_217 : decode cX0_anHour 217 = .ok (.iconst (-1), 1) := by decide +kernel
theorem dX0_anHour_218 : decode cX0_anHour 218 = .ok (.ixor, 1) := by decide +kernel
theorem dX0_anHour_219 : decode cX0_anHour 219 = .ok (.iand, 1) := by decide +kernel
theorem dX0_anHour_220 : decode cX0_anHour 220 = .ok (.istore 5, 2) := by decide +kernel
theorem dX0_anHour_222 : decode cX0_anHour 222 = .ok (.iinc 6 1, 3) := by decide +kernel
theorem dX0_anHour_225 : decode cX0_anHour 225 = .ok (.goto (-180), 3) := by decide +kernel
theorem dX0_anHour_228 : decode cX0_anHour 228 = .ok (.aload_n 0, 1) := by decide +kernel
theorem dX0_anHour_229 : decode cX0_anHour 229 = .ok (.iload 5, 2) := by decide +kernel
theorem dX0_anHour_231 : decode cX0_anHour 231 = .ok (.putfield 28, 3) := by decide +kernel
theorem dX0_anHour_234 : decode cX0_anHour 234 = .ok (.return_, 1) := by decide +kernel
abbrev A0_anHour (G : GG) (Q : MM → Prop) := AW G E0 (MZ G (qV Q)) (WY yX0_anHour cX0_anHour 7 none) RX0 cX0_anHour 7 none ({ frames := 2, cells := 0, slots := 0, locals := 46 } : Room) 0 0
def D0_anHour_c222 (b : Nat) (K45 : Int32 → Int32 → Int32 → Int32 → Int32 → MM → Prop) (Q : MM → Prop) (x2 : Int32) (x3 : Int32) (x4 : Int32) (x5 : Int32) (x6 : Int32) (M : MM) : Prop := (fun v16 : Int32 => K45 x2 x3 x4 x5 v16 M) (x6 + (1 : Int32))
def D0_anHour_c184 (b : Nat) (K45 : Int32 → Int32 → Int32 → Int32 → Int32 → MM → Prop) (Q : MM → Prop) (x2 : Int32) (x3 : Int32) (x4 : Int32) (x5 : Int32) (x6 : Int32) (M : MM) : Prop := ib (b + 4) x6 ∧ ib (b + 1) x6 ∧ ib (b + 2) x6 ∧ D1_holdsFor (M (b + 1) (ix x6)) (M (b + 2) (ix x6)) M (fun (r25 : Int32) (M26 : MM) => (((M (b + 4) (ix x6)) ≤ r25 → D0_anHour_c222 b K45 Q x2 x3 x4 x5 x6 M26) ∧ (¬ (M (b + 4) (ix x6)) ≤ r25 → (fun v27 : Int32 => D0_anHour_c222 b K45 Q x2 x3 x4 v27 x6 M26) (x5 &&& (((1 : Int32) <<< (x6 &&& 31)) ^^^ (-1 : Int32))))))
def D0_anHour_c97 (b : Nat) (K45 : Int32 → Int32 → Int32 → Int32 → Int32 → MM → Prop) (Q : MM → Prop) (x2 : Int32) (x3 : Int32) (x4 : Int32) (x5 : Int32) (x6 : Int32) (M : MM) : Prop := ib (b + 3) x6 ∧ D3_has x3 (M (b + 3) (ix x6)) M (fun (r17 : Int32) (M18 : MM) => ((r17 ≠ 0 → D0_anHour_c184 b K45 Q x2 x3 x4 x5 x6 M18) ∧ (r17 = 0 → ((((x2 >>> (x6 &&& 31)) &&& (1 : Int32)) ≠ 0 → D0_anHour_c184 b K45 Q x2 x3 x4 x5 x6 M18) ∧ (((x2 >>> (x6 &&& 31)) &&& (1 : Int32)) = 0 → ib (b + 1) x6 ∧ ib (b + 2) x6 ∧ D1_letsFor (M18 (b + 1) (ix x6)) (M18 (b + 2) (ix x6)) M18 (fun (r19 : Int32) (M20 : MM) => (fun M21 : MM => ib (b + 1) x6 ∧ ib (b + 2) x6 ∧ D1_rateFor (M21 (b + 1) (ix x6)) (M21 (b + 2) (ix x6)) M21 (fun (r22 : Int32) (M23 : MM) => (fun M24 : MM => D0_anHour_c184 b K45 Q x2 x3 x4 x5 x6 M24) (up M23 b 8 (if ((M21 b 8) + r22) < (9999 : Int32) then ((M21 b 8) + r22) else (9999 : Int32))))) (up M20 b 7 (if ((M18 b 7) + r19) < (9999 : Int32) then ((M18 b 7) + r19) else (9999 : Int32)))))))))
def D0_anHour_c45 (b : Nat) (Q : MM → Prop) : Nat → Int32 → Int32 → Int32 → Int32 → Int32 → MM → Prop
  | 0, _, _, _, _, _, _ => False
  | n + 1, x2, x3, x4, x5, x6, M => (((10 : Int32) ≤ x6 → (fun M10 : MM => Q M10) (up M b 5 x5)) ∧ (¬ (10 : Int32) ≤ x6 → D0_stands b x6 M (fun (r11 : Int32) (M12 : MM) => ((r11 = 0 → D0_anHour_c222 b (D0_anHour_c45 b Q n) Q x2 x3 x4 x5 x6 M12) ∧ (¬ r11 = 0 → ib (b + 3) x6 ∧ D3_has x4 (M12 (b + 3) (ix x6)) M12 (fun (r13 : Int32) (M14 : MM) => ((r13 = 0 → D0_anHour_c97 b (D0_anHour_c45 b Q n) Q x2 x3 x4 x5 x6 M14) ∧ (¬ r13 = 0 → ib (b + 4) x6 ∧ ib (b + 4) x6 ∧ (fun M15 : MM => D0_anHour_c97 b (D0_anHour_c45 b Q n) Q x2 x3 x4 x5 x6 M15) (up M14 (b + 4) (ix x6) (if ((M14 (b + 4) (ix x6)) + (1 : Int32)) < (99 : Int32) then ((M14 (b + 4) (ix x6)) + (1 : Int32)) else (99 : Int32)))))))))))
def D0_anHour (b : Nat) (x1 : Int32) (x2 : Int32) (M : MM) (Q : MM → Prop) : Prop := (fun M1 : MM => D3_height (M1 b 6) M1 (fun (r2 : Int32) (M3 : MM) => D0_wetAt b (if (r2 + x1) < (5 : Int32) then (r2 + x1) else (5 : Int32)) M3 (fun (r4 : Int32) (M5 : MM) => D3_beside r4 M5 (fun (r6 : Int32) (M7 : MM) => (fun v8 : Int32 => (fun v9 : Int32 => D0_anHour_c45 b Q FU x2 r4 v8 v9 (0 : Int32) M7) (M7 b 5)) (r4 ||| r6))))) (up M b 6 ((M b 6) + (1 : Int32)))
set_option maxHeartbeats 4000000 in
set_option maxRecDepth 100000 in
theorem s0_anHour_c222 {G : GG} {b : Nat} (hb : ob b 0) {K45 : Int32 → Int32 → Int32 → Int32 → Int32 → MM → Prop} {Q : MM → Prop} (hK45 : ∀ (x2 : Int32) (x3 : Int32) (x4 : Int32) (x5 : Int32) (x6 : Int32) (M : MM), K45 x2 x3 x4 x5 x6 M → A0_anHour G Q 45 [(0, .ref (gA G b)), (2, .int x2), (3, .int x3), (4, .int x4), (5, .int x5), (6, .int x6)] [] M) : ∀ (x2 : Int32) (x3 : Int32) (x4 : Int32) (x5 : Int32) (x6 : Int32) (M : MM), D0_anHour_c222 b K45 Q x2 x3 x4 x5 x6 M → A0_anHour G Q 222 [(0, .ref (gA G b)), (2, .int x2), (3, .int x3), (4, .int x4), (5, .int x5), (6, .int x6)] [] M := by
  intro x2 x3 x4 x5 x6 M h
  unfold D0_anHour_c222 at h
  refine a_iinc (L' := [(6, .int _), (0, .ref _), (2, .int _), (3, .int _), (4, .int _), (5, .int _)]) dX0_anHour_222 5 rfl (show _ + Int32.ofInt (1 : Int) = _ + (1 : Int32) from rfl) (by decide) rfl ?_
  refine a_goto (tgt := 45) dX0_anHour_225 (by decide) ?_
  refine a_sub [1, 2, 3, 4, 5, 0] rfl ?_
  exact hK45 _ _ _ _ _ _ h
set_option maxHeartbeats 4000000 in
set_option maxRecDepth 100000 in
theorem s0_anHour_c184 {G : GG} {b : Nat} (hb : ob b 0) {K45 : Int32 → Int32 → Int32 → Int32 → Int32 → MM → Prop} {Q : MM → Prop} (hK45 : ∀ (x2 : Int32) (x3 : Int32) (x4 : Int32) (x5 : Int32) (x6 : Int32) (M : MM), K45 x2 x3 x4 x5 x6 M → A0_anHour G Q 45 [(0, .ref (gA G b)), (2, .int x2), (3, .int x3), (4, .int x4), (5, .int x5), (6, .int x6)] [] M) : ∀ (x2 : Int32) (x3 : Int32) (x4 : Int32) (x5 : Int32) (x6 : Int32) (M : MM), D0_anHour_c184 b K45 Q x2 x3 x4 x5 x6 M → A0_anHour G Q 184 [(0, .ref (gA G b)), (2, .int x2), (3, .int x3), (4, .int x4), (5, .int x5), (6, .int x6)] [] M := by
  intro x2 x3 x4 x5 x6 M h
  unfold D0_anHour_c184 at h
  refine a_aload_n dX0_anHour_184 0 rfl ?_
  refine a_get0 dX0_anHour_185 3 (by decide) (tbc _ kF_RX0_21) (fun w h => tbc _ (uW0 w h)) rfl hb rfl ?_
  refine a_iload dX0_anHour_188 5 rfl ?_
  refine a_iald dX0_anHour_190 h.1 ?_
  have h := h.2
  refine a_aload_n dX0_anHour_191 0 rfl ?_
  refine a_get0 dX0_anHour_192 0 (by decide) (tbc _ kF_RX0_11) (fun w h => tbc _ (uW0 w h)) rfl hb rfl ?_
  refine a_iload dX0_anHour_195 5 rfl ?_
  refine a_iald dX0_anHour_197 h.1 ?_
  have h := h.2
  refine a_aload_n dX0_anHour_198 0 rfl ?_
  refine a_get0 dX0_anHour_199 1 (by decide) (tbc _ kF_RX0_15) (fun w h => tbc _ (uW0 w h)) rfl hb rfl ?_
  refine a_iload dX0_anHour_202 5 rfl ?_
  refine a_iald dX0_anHour_204 h.1 ?_
  have h := h.2
  refine a_callSi (n := 2) [.int _, .int _] dX0_anHour_205 (s1_holdsFor h) (gS tbc kM_RX0_51_X1_holdsFor kT_X1_holdsFor kN_RX1 kC_X1_holdsFor) rfl (by decide +kernel) ⟨Nat.le_of_ble_eq_true rfl, Nat.le_of_ble_eq_true rfl⟩ rfl rfl (Nat.le_of_ble_eq_true rfl) ⟨Nat.le_refl 0, Nat.le_refl 0⟩ (fun r M h => ?_)
  refine a_icmp_le (tgt := 222) dX0_anHour_208 (by decide) (fun c => ?_) (fun c => ?_)
  · have h := h.1 c
    refine a_sub [0, 1, 2, 3, 4, 5] rfl ?_
    exact s0_anHour_c222 hb hK45 _ _ _ _ _ _ h
  · have h := h.2 c
    refine a_iload dX0_anHour_211 4 rfl ?_
    refine a_iconst (v := 1) dX0_anHour_213 (by decide) ?_
    refine a_iload dX0_anHour_214 5 rfl ?_
    refine a_ishl dX0_anHour_216 ?_
    refine a_iconst (v := -1) dX0_anHour_217 (by decide) ?_
    refine a_ixor dX0_anHour_218 ?_
    refine a_iand dX0_anHour_219 ?_
    refine a_istore (i := 5) (L' := [(5, .int _), (0, .ref _), (2, .int _), (3, .int _), (4, .int _), (6, .int _)]) dX0_anHour_220 (by decide) rfl ?_
    refine a_sub [1, 2, 3, 4, 0, 5] rfl ?_
    exact s0_anHour_c222 hb hK45 _ _ _ _ _ _ h
set_option maxHeartbeats 4000000 in
set_option maxRecDepth 100000 in
theorem s0_anHour_c97 {G : GG} {b : Nat} (hb : ob b 0) {K45 : Int32 → Int32 → Int32 → Int32 → Int32 → MM → Prop} {Q : MM → Prop} (hK45 : ∀ (x2 : Int32) (x3 : Int32) (x4 : Int32) (x5 : Int32) (x6 : Int32) (M : MM), K45 x2 x3 x4 x5 x6 M → A0_anHour G Q 45 [(0, .ref (gA G b)), (2, .int x2), (3, .int x3), (4, .int x4), (5, .int x5), (6, .int x6)] [] M) : ∀ (x2 : Int32) (x3 : Int32) (x4 : Int32) (x5 : Int32) (x6 : Int32) (M : MM), D0_anHour_c97 b K45 Q x2 x3 x4 x5 x6 M → A0_anHour G Q 97 [(0, .ref (gA G b)), (2, .int x2), (3, .int x3), (4, .int x4), (5, .int x5), (6, .int x6)] [] M := by
  intro x2 x3 x4 x5 x6 M h
  unfold D0_anHour_c97 at h
  refine a_iload_n dX0_anHour_97 2 rfl ?_
  refine a_aload_n dX0_anHour_98 0 rfl ?_
  refine a_get0 dX0_anHour_99 2 (by decide) (tbc _ kF_RX0_18) (fun w h => tbc _ (uW0 w h)) rfl hb rfl ?_
  refine a_iload dX0_anHour_102 5 rfl ?_
  refine a_iald dX0_anHour_104 h.1 ?_
  have h := h.2
  refine a_callSi (n := 2) [.int _, .int _] dX0_anHour_105 (s3_has h) (gS tbc kM_RX0_86_X3_has kT_X3_has kN_RX3 kC_X3_has) rfl (by decide +kernel) ⟨Nat.le_of_ble_eq_true rfl, Nat.le_of_ble_eq_true rfl⟩ rfl rfl (Nat.le_of_ble_eq_true rfl) ⟨Nat.le_refl 0, Nat.le_refl 0⟩ (fun r M h => ?_)
  refine a_if_ne (tgt := 184) dX0_anHour_108 (by decide) (fun c => ?_) (fun c => ?_)
  · have h := h.1 c
    refine a_sub [0, 1, 2, 3, 4, 5] rfl ?_
    exact s0_anHour_c184 hb hK45 _ _ _ _ _ _ h
  · have h := h.2 c
    refine a_iload_n dX0_anHour_111 1 rfl ?_
    refine a_iload dX0_anHour_112 5 rfl ?_
    refine a_ishr dX0_anHour_114 ?_
    refine a_iconst (v := 1) dX0_anHour_115 (by decide) ?_
    refine a_iand dX0_anHour_116 ?_
    refine a_if_ne (tgt := 184) dX0_anHour_117 (by decide) (fun c => ?_) (fun c => ?_)
    · have h := h.1 c
      refine a_sub [0, 1, 2, 3, 4, 5] rfl ?_
      exact s0_anHour_c184 hb hK45 _ _ _ _ _ _ h
    · have h := h.2 c
      refine a_aload_n dX0_anHour_120 0 rfl ?_
      refine a_sipush (v := 9999) dX0_anHour_121 (by decide) ?_
      refine a_aload_n dX0_anHour_124 0 rfl ?_
      refine a_get0 dX0_anHour_125 7 (by decide) (tbc _ kF_RX0_34) (fun w h => tbc _ (uW0 w h)) rfl hb rfl ?_
      refine a_aload_n dX0_anHour_128 0 rfl ?_
      refine a_get0 dX0_anHour_129 0 (by decide) (tbc _ kF_RX0_11) (fun w h => tbc _ (uW0 w h)) rfl hb rfl ?_
      refine a_iload dX0_anHour_132 5 rfl ?_
      refine a_iald dX0_anHour_134 h.1 ?_
      have h := h.2
      refine a_aload_n dX0_anHour_135 0 rfl ?_
      refine a_get0 dX0_anHour_136 1 (by decide) (tbc _ kF_RX0_15) (fun w h => tbc _ (uW0 w h)) rfl hb rfl ?_
      refine a_iload dX0_anHour_139 5 rfl ?_
      refine a_iald dX0_anHour_141 h.1 ?_
      have h := h.2
      refine a_callSi (n := 2) [.int _, .int _] dX0_anHour_142 (s1_letsFor h) (gS tbc kM_RX0_90_X1_letsFor kT_X1_letsFor kN_RX1 kC_X1_letsFor) rfl (by decide +kernel) ⟨Nat.le_of_ble_eq_true rfl, Nat.le_of_ble_eq_true rfl⟩ rfl rfl (Nat.le_of_ble_eq_true rfl) ⟨Nat.le_refl 0, Nat.le_refl 0⟩ (fun r M h => ?_)
      refine a_iadd dX0_anHour_145 ?_
      refine a_mmin dX0_anHour_146 (tbc _ kM_RX0_77_Lib_Math_min_name) (tbc _ kT_Lib_Math_min_name) (tbc _ kN_Math) (tbc _ kC_Lib_Math_min_name) (Nat.le_of_ble_eq_true rfl) (Nat.le_of_ble_eq_true rfl) (Nat.le_refl 0) (Nat.le_refl 0) ?_
      refine a_put0 dX0_anHour_149 7 (by decide) (tbc _ kF_RX0_34) (fun w h => tbc _ (uW0 w h)) rfl rfl rfl rfl hb fs0_7 ?_
      refine a_aload_n dX0_anHour_152 0 rfl ?_
      refine a_sipush (v := 9999) dX0_anHour_153 (by decide) ?_
      refine a_aload_n dX0_anHour_156 0 rfl ?_
      refine a_get0 dX0_anHour_157 8 (by decide) (tbc _ kF_RX0_37) (fun w h => tbc _ (uW0 w h)) rfl hb rfl ?_
      refine a_aload_n dX0_anHour_160 0 rfl ?_
      refine a_get0 dX0_anHour_161 0 (by decide) (tbc _ kF_RX0_11) (fun w h => tbc _ (uW0 w h)) rfl hb rfl ?_
      refine a_iload dX0_anHour_164 5 rfl ?_
      refine a_iald dX0_anHour_166 h.1 ?_
      have h := h.2
      refine a_aload_n dX0_anHour_167 0 rfl ?_
      refine a_get0 dX0_anHour_168 1 (by decide) (tbc _ kF_RX0_15) (fun w h => tbc _ (uW0 w h)) rfl hb rfl ?_
      refine a_iload dX0_anHour_171 5 rfl ?_
      refine a_iald dX0_anHour_173 h.1 ?_
      have h := h.2
      refine a_callSi (n := 2) [.int _, .int _] dX0_anHour_174 (s1_rateFor h) (gS tbc kM_RX0_57_X1_rateFor kT_X1_rateFor kN_RX1 kC_X1_rateFor) rfl (by decide +kernel) ⟨Nat.le_of_ble_eq_true rfl, Nat.le_of_ble_eq_true rfl⟩ rfl rfl (Nat.le_of_ble_eq_true rfl) ⟨Nat.le_refl 0, Nat.le_refl 0⟩ (fun r M h => ?_)
      refine a_iadd dX0_anHour_177 ?_
      refine a_mmin dX0_anHour_178 (tbc _ kM_RX0_77_Lib_Math_min_name) (tbc _ kT_Lib_Math_min_name) (tbc _ kN_Math) (tbc _ kC_Lib_Math_min_name) (Nat.le_of_ble_eq_true rfl) (Nat.le_of_ble_eq_true rfl) (Nat.le_refl 0) (Nat.le_refl 0) ?_
      refine a_put0 dX0_anHour_181 8 (by decide) (tbc _ kF_RX0_37) (fun w h => tbc _ (uW0 w h)) rfl rfl rfl rfl hb fs0_8 ?_
      refine a_sub [0, 1, 2, 3, 4, 5] rfl ?_
      exact s0_anHour_c184 hb hK45 _ _ _ _ _ _ h
set_option maxHeartbeats 4000000 in
set_option maxRecDepth 100000 in
theorem s0_anHour_c45 {G : GG} {b : Nat} (hb : ob b 0) {Q : MM → Prop} : ∀ (n : Nat) (x2 : Int32) (x3 : Int32) (x4 : Int32) (x5 : Int32) (x6 : Int32) (M : MM), D0_anHour_c45 b Q n x2 x3 x4 x5 x6 M → A0_anHour G Q 45 [(0, .ref (gA G b)), (2, .int x2), (3, .int x3), (4, .int x4), (5, .int x5), (6, .int x6)] [] M := by
  intro n
  induction n with
  | zero => intro x2 x3 x4 x5 x6 M h; exact h.elim
  | succ n ih =>
    intro x2 x3 x4 x5 x6 M h
    unfold D0_anHour_c45 at h
    refine a_iload dX0_anHour_45 5 rfl ?_
    refine a_bipush (v := 10) dX0_anHour_47 (by decide) ?_
    refine a_icmp_ge (tgt := 228) dX0_anHour_49 (by decide) (fun c => ?_) (fun c => ?_)
    · have h := h.1 c
      refine a_aload_n dX0_anHour_228 0 rfl ?_
      refine a_iload dX0_anHour_229 4 rfl ?_
      refine a_put0 dX0_anHour_231 5 (by decide) (tbc _ kF_RX0_28) (fun w h => tbc _ (uW0 w h)) rfl rfl rfl rfl hb fs0_5 ?_
      exact a_vret dX0_anHour_234 ⟨rfl, h⟩
    · have h := h.2 c
      refine a_aload_n dX0_anHour_52 0 rfl ?_
      refine a_iload dX0_anHour_53 5 rfl ?_
      refine a_callVi (n := 1) [.int _] (C := RX0) (ci := 0) (qc := (RX0, TX0, 9)) (fsF := fl0 G _) hb.1 (fun _ => en0 hb.2) rfl rfl dX0_anHour_55 (s0_stands hb h) (gV tbc kM_RX0_60_X0_stands kI_X0_stands kS_X0_stands kN_RX0 kC_X0_stands) rfl (by decide +kernel) ⟨Nat.le_of_ble_eq_true rfl, Nat.le_of_ble_eq_true rfl⟩ rfl rfl (Nat.le_of_ble_eq_true rfl) ⟨Nat.le_refl 0, Nat.le_refl 0⟩ (fun r M h => ?_)
      refine a_if_eq (tgt := 222) dX0_anHour_58 (by decide) (fun c => ?_) (fun c => ?_)
      · have h := h.1 c
        refine a_sub [0, 1, 2, 3, 4, 5] rfl ?_
        exact s0_anHour_c222 hb ih _ _ _ _ _ _ h
      · have h := h.2 c
        refine a_iload dX0_anHour_61 3 rfl ?_
        refine a_aload_n dX0_anHour_63 0 rfl ?_
        refine a_get0 dX0_anHour_64 2 (by decide) (tbc _ kF_RX0_18) (fun w h => tbc _ (uW0 w h)) rfl hb rfl ?_
        refine a_iload dX0_anHour_67 5 rfl ?_
        refine a_iald dX0_anHour_69 h.1 ?_
        have h := h.2
        refine a_callSi (n := 2) [.int _, .int _] dX0_anHour_70 (s3_has h) (gS tbc kM_RX0_86_X3_has kT_X3_has kN_RX3 kC_X3_has) rfl (by decide +kernel) ⟨Nat.le_of_ble_eq_true rfl, Nat.le_of_ble_eq_true rfl⟩ rfl rfl (Nat.le_of_ble_eq_true rfl) ⟨Nat.le_refl 0, Nat.le_refl 0⟩ (fun r M h => ?_)
        refine a_if_eq (tgt := 97) dX0_anHour_73 (by decide) (fun c => ?_) (fun c => ?_)
        · have h := h.1 c
          refine a_sub [0, 1, 2, 3, 4, 5] rfl ?_
          exact s0_anHour_c97 hb ih _ _ _ _ _ _ h
        · have h := h.2 c
          refine a_aload_n dX0_anHour_76 0 rfl ?_
          refine a_get0 dX0_anHour_77 3 (by decide) (tbc _ kF_RX0_21) (fun w h => tbc _ (uW0 w h)) rfl hb rfl ?_
          refine a_iload dX0_anHour_80 5 rfl ?_
          refine a_bipush (v := 99) dX0_anHour_82 (by decide) ?_
          refine a_aload_n dX0_anHour_84 0 rfl ?_
          refine a_get0 dX0_anHour_85 3 (by decide) (tbc _ kF_RX0_21) (fun w h => tbc _ (uW0 w h)) rfl hb rfl ?_
          refine a_iload dX0_anHour_88 5 rfl ?_
          refine a_iald dX0_anHour_90 h.1 ?_
          have h := h.2
          refine a_iconst (v := 1) dX0_anHour_91 (by decide) ?_
          refine a_iadd dX0_anHour_92 ?_
          refine a_mmin dX0_anHour_93 (tbc _ kM_RX0_77_Lib_Math_min_name) (tbc _ kT_Lib_Math_min_name) (tbc _ kN_Math) (tbc _ kC_Lib_Math_min_name) (Nat.le_of_ble_eq_true rfl) (Nat.le_of_ble_eq_true rfl) (Nat.le_refl 0) (Nat.le_refl 0) ?_
          refine a_iast dX0_anHour_96 h.1 ?_
          have h := h.2
          refine a_sub [0, 1, 2, 3, 4, 5] rfl ?_
          exact s0_anHour_c97 hb ih _ _ _ _ _ _ h
set_option maxHeartbeats 4000000 in
set_option maxRecDepth 100000 in
theorem s0_anHour {G : GG} {b : Nat} (hb : ob b 0) {x1 : Int32} {x2 : Int32} {M : MM} {Q : MM → Prop} (h : D0_anHour b x1 x2 M Q) : CM G yX0_anHour (WY yX0_anHour cX0_anHour 7 none) 2 46 [.ref (gA G b), .int x1, .int x2] M (qV Q) := by
  refine CM.of (cc := cX0_anHour) (nL := 7) (ret := none) (own := RX0) (by decide +kernel) rfl rfl (Nat.le_of_ble_eq_true rfl) ?_
  show A0_anHour G Q 0 [(0, .ref (gA G b)), (1, .int x1), (2, .int x2)] [] M
  unfold D0_anHour at h
  refine a_aload_n dX0_anHour_0 0 rfl ?_
  refine a_dup dX0_anHour_1 rfl ?_
  refine a_get0 dX0_anHour_2 6 (by decide) (tbc _ kF_RX0_31) (fun w h => tbc _ (uW0 w h)) rfl hb rfl ?_
  refine a_iconst (v := 1) dX0_anHour_5 (by decide) ?_
  refine a_iadd dX0_anHour_6 ?_
  refine a_put0 dX0_anHour_7 6 (by decide) (tbc _ kF_RX0_31) (fun w h => tbc _ (uW0 w h)) rfl rfl rfl rfl hb fs0_6 ?_
  refine a_aload_n dX0_anHour_10 0 rfl ?_
  refine a_iconst (v := 5) dX0_anHour_11 (by decide) ?_
  refine a_aload_n dX0_anHour_12 0 rfl ?_
  refine a_get0 dX0_anHour_13 6 (by decide) (tbc _ kF_RX0_31) (fun w h => tbc _ (uW0 w h)) rfl hb rfl ?_
  refine a_callSi (n := 1) [.int _] dX0_anHour_16 (s3_height h) (gS tbc kM_RX0_74_X3_height kT_X3_height kN_RX3 kC_X3_height) rfl (by decide +kernel) ⟨Nat.le_of_ble_eq_true rfl, Nat.le_of_ble_eq_true rfl⟩ rfl rfl (Nat.le_of_ble_eq_true rfl) ⟨Nat.le_refl 0, Nat.le_refl 0⟩ (fun r M h => ?_)
  refine a_iload_n dX0_anHour_19 1 rfl ?_
  refine a_iadd dX0_anHour_20 ?_
  refine a_mmin dX0_anHour_21 (tbc _ kM_RX0_77_Lib_Math_min_name) (tbc _ kT_Lib_Math_min_name) (tbc _ kN_Math) (tbc _ kC_Lib_Math_min_name) (Nat.le_of_ble_eq_true rfl) (Nat.le_of_ble_eq_true rfl) (Nat.le_refl 0) (Nat.le_refl 0) ?_
  refine a_callVi (n := 1) [.int _] (C := RX0) (ci := 0) (qc := (RX0, TX0, 9)) (fsF := fl0 G _) hb.1 (fun _ => en0 hb.2) rfl rfl dX0_anHour_24 (s0_wetAt hb h) (gV tbc kM_RX0_80_X0_wetAt kI_X0_wetAt kS_X0_wetAt kN_RX0 kC_X0_wetAt) rfl (by decide +kernel) ⟨Nat.le_of_ble_eq_true rfl, Nat.le_of_ble_eq_true rfl⟩ rfl rfl (Nat.le_of_ble_eq_true rfl) ⟨Nat.le_refl 0, Nat.le_refl 0⟩ (fun r M h => ?_)
  refine a_istore_n (i := 3) (L' := [(3, .int _), (0, .ref _), (1, .int _), (2, .int _)]) dX0_anHour_27 rfl (by decide) rfl ?_
  refine a_iload_n dX0_anHour_28 0 rfl ?_
  refine a_iload_n dX0_anHour_29 0 rfl ?_
  refine a_callSi (n := 1) [.int _] dX0_anHour_30 (s3_beside h) (gS tbc kM_RX0_83_X3_beside kT_X3_beside kN_RX3 kC_X3_beside) rfl (by decide +kernel) ⟨Nat.le_of_ble_eq_true rfl, Nat.le_of_ble_eq_true rfl⟩ rfl rfl (Nat.le_of_ble_eq_true rfl) ⟨Nat.le_refl 0, Nat.le_refl 0⟩ (fun r M h => ?_)
  refine a_ior dX0_anHour_33 ?_
  refine a_istore (i := 4) (L' := [(4, .int _), (3, .int _), (0, .ref _), (1, .int _), (2, .int _)]) dX0_anHour_34 (by decide) rfl ?_
  refine a_aload_n dX0_anHour_36 2 rfl ?_
  refine a_get0 dX0_anHour_37 5 (by decide) (tbc _ kF_RX0_28) (fun w h => tbc _ (uW0 w h)) rfl hb rfl ?_
  refine a_istore (i := 5) (L' := [(5, .int _), (4, .int _), (3, .int _), (0, .ref _), (1, .int _), (2, .int _)]) dX0_anHour_40 (by decide) rfl ?_
  refine a_iconst (v := 0) dX0_anHour_42 (by decide) ?_
  refine a_istore (i := 6) (L' := [(6, .int _), (5, .int _), (4, .int _), (3, .int _), (0, .ref _), (1, .int _), (2, .int _)]) dX0_anHour_43 (by decide) rfl ?_
  refine a_sub [4, 6, 3, 2, 1, 0] rfl ?_
  exact s0_anHour_c45 hb _ _ _ _ _ _ _ h

/-! X0_becomes -/
theorem dX0_becomes_0 : decode cX0_becomes 0 = .ok (.aload_n 1, 1) := by decide +kernel
theorem dX0_becomes_1 : decode cX0_becomes 1 = .ok (.ifnonnull 4, 3) := by decide +kernel
theorem dX0_becomes_4 : decode cX0_becomes 4 = .ok (.return_, 1) := by decide +kernel
theorem dX0_becomes_5 : decode cX0_becomes 5 = .ok (.iconst 0, 1) := by decide +kernel
theorem dX0_becomes_6 : decode cX0_becomes 6 = .ok (.istore_n 2, 1) := by decide +kernel
theorem dX0_becomes_7 : decode cX0_becomes 7 = .ok (.iload_n 2, 1) := by decide +kernel
theorem dX0_becomes_8 : decode cX0_becomes 8 = .ok (.bipush 10, 2) := by decide +kernel
theorem dX0_becomes_10 : decode cX0_becomes 10 = .ok (.if_icmp .ge 57, 3) := by decide +kernel
theorem dX0_becomes_13 : decode cX0_becomes 13 = .ok (.aload_n 0, 1) := by decide +kernel
theorem dX0_becomes_14 : decode cX0_becomes 14 = .ok (.getfield 11, 3) := by decide +kernel
theorem dX0_becomes_17 : decode cX0_becomes 17 = .ok (.iload_n 2, 1) := by decide +kernel
theorem dX0_becomes_18 : decode cX0_becomes 18 = .ok (.aload_n 1, 1) := by decide +kernel
theorem dX0_becomes_19 : decode cX0_becomes 19 = .ok (.getfield 11, 3) := by decide +kernel
theorem dX0_becomes_22 : decode cX0_becomes 22 = .ok (.iload_n 2, 1) := by decide +kernel
theorem dX0_becomes_23 : decode cX0_becomes 23 = .ok (.iaload, 1) := by decide +kernel
theorem dX0_becomes_24 : decode cX0_becomes 24 = .ok (.iastore, 1) := by decide +kernel
theorem dX0_becomes_25 : decode cX0_becomes 25 = .ok (.aload_n 0, 1) := by decide +kernel
theorem dX0_becomes_26 : decode cX0_becomes 26 = .ok (.getfield 15, 3) := by decide +kernel
theorem dX0_becomes_29 : decode cX0_becomes 29 = .ok (.iload_n 2, 1) := by decide +kernel
theorem dX0_becomes_30 : decode cX0_becomes 30 = .ok (.aload_n 1, 1) := by decide +kernel
theorem dX0_becomes_31 : decode cX0_becomes 31 = .ok (.getfield 15, 3) := by decide +kernel
theorem dX0_becomes_34 : decode cX0_becomes 34 = .ok (.iload_n 2, 1) := by decide +kernel
theorem dX0_becomes_35 : decode cX0_becomes 35 = .ok (.iaload, 1) := by decide +kernel
theorem dX0_becomes_36 : decode cX0_becomes 36 = .ok (.iastore, 1) := by decide +kernel
theorem dX0_becomes_37 : decode cX0_becomes 37 = .ok (.aload_n 0, 1) := by decide +kernel
theorem dX0_becomes_38 : decode cX0_becomes 38 = .ok (.getfield 18, 3) := by decide +kernel
theorem dX0_becomes_41 : decode cX0_becomes 41 = .ok (.iload_n 2, 1) := by decide +kernel
theorem dX0_becomes_42 : decode cX0_becomes 42 = .ok (.aload_n 1, 1) := by decide +kernel
theorem dX0_becomes_43 : decode cX0_becomes 43 = .ok (.getfield 18, 3) := by decide +kernel
theorem dX0_becomes_46 : decode cX0_becomes 46 = .ok (.iload_n 2, 1) := by decide +kernel
theorem dX0_becomes_47 : decode cX0_becomes 47 = .ok (.iaload, 1) := by decide +kernel
theorem dX0_becomes_48 : decode cX0_becomes 48 = .ok (.iastore, 1) := by decide +kernel
theorem dX0_becomes_49 : decode cX0_becomes 49 = .ok (.aload_n 0, 1) := by decide +kernel
theorem dX0_becomes_50 : decode cX0_becomes 50 = .ok (.getfield 21, 3) := by decide +kernel
theorem dX0_becomes_53 : decode cX0_becomes 53 = .ok (.iload_n 2, 1) := by decide +kernel
theorem dX0_becomes_54 : decode cX0_becomes 54 = .ok (.aload_n 1, 1) := by decide +kernel
theorem dX0_becomes_55 : decode cX0_becomes 55 = .ok (.getfield 21, 3) := by decide +kernel
theorem dX0_becomes_58 : decode cX0_becomes 58 = .ok (.iload_n 2, 1) := by decide +kernel
theorem dX0_becomes_59 : decode cX0_becomes 59 = .ok (.iaload, 1) := by decide +kernel
theorem dX0_becomes_60 : decode cX0_becomes 60 = .ok (.iastore, 1) := by decide +kernel
theorem dX0_becomes_61 : decode cX0_becomes 61 = .ok (.iinc 2 1, 3) := by decide +kernel
theorem dX0_becomes_64 : decode cX0_becomes 64 = .ok (.goto (-57), 3) := by decide +kernel
theorem dX0_becomes_67 : decode cX0_becomes 67 = .ok (.aload_n 0, 1) := by decide +kernel
theorem dX0_becomes_68 : decode cX0_becomes 68 = .ok (.aload_n 1, 1) := by decide +kernel
theorem dX0_becomes_69 : decode cX0_becomes 69 = .ok (.getfield 24, 3) := by decide +kernel
theorem dX0_becomes_72 : decode cX0_becomes 72 = .ok (.putfield 24, 3) := by decide +kernel
theorem dX0_becomes_75 : decode cX0_becomes 75 = .ok (.aload_n 0, 1) := by decide +kernel
theorem dX0_becomes_76 : decode cX0_becomes 76 = .ok (.aload_n 1, 1) := by decide +kernel
theorem dX0_becomes_77 : decode cX0_becomes 77 = .ok (.getfield 28, 3) := by decide +kernel
theorem dX0_becomes_80 : decode cX0_becomes 80 = .ok (.putfield 28, 3) := by decide +kernel
theorem dX0_becomes_83 : decode cX0_becomes 83 = .ok (.aload_n 0, 1) := by decide +kernel
theorem dX0_becomes_84 : decode cX0_becomes 84 = .ok (.aload_n 1, 1) := by decide +kernel
theorem dX0_becomes_85 : decode cX0_becomes 85 = .ok (.getfield 31, 3) := by decide +kernel
theorem dX0_becomes_88 : decode cX0_becomes 88 = .ok (.putfield 31, 3) := by decide +kernel
theorem dX0_becomes_91 : decode cX0_becomes 91 = .ok (.aload_n 0, 1) := by decide +kernel
theorem dX0_becomes_92 : decode cX0_becomes 92 = .ok (.aload_n 1, 1) := by decide +kernel
theorem dX0_becomes_93 : decode cX0_becomes 93 = .ok (.getfield 34, 3) := by decide +kernel
theorem dX0_becomes_96 : decode cX0_becomes 96 = .ok (.putfield 34, 3) := by decide +kernel
theorem dX0_becomes_99 : decode cX0_becomes 99 = .ok (.aload_n 0, 1) := by decide +kernel
theorem dX0_becomes_100 : decode cX0_becomes 100 = .ok (.aload_n 1, 1) := by decide +kernel
theorem dX0_becomes_101 : decode cX0_becomes 101 = .ok (.getfield 37, 3) := by decide +kernel
theorem dX0_becomes_104 : decode cX0_becomes 104 = .ok (.putfield 37, 3) := by decide +kernel
theorem dX0_becomes_107 : decode cX0_becomes 107 = .ok (.return_, 1) := by decide +kernel
abbrev A0_becomes (G : GG) (Q : MM → Prop) := AW G E0 (MZ G (qV Q)) (WY yX0_becomes cX0_becomes 3 none) RX0 cX0_becomes 3 none ({ frames := 0, cells := 0, slots := 0, locals := 0 } : Room) 0 0
def D0_becomes_c67 (b : Nat) (Q : MM → Prop) (x1 : Nat) (M : MM) : Prop := (fun M6 : MM => (fun M7 : MM => (fun M8 : MM => (fun M9 : MM => (fun M10 : MM => Q M10) (up M9 b 8 (M9 x1 8))) (up M8 b 7 (M8 x1 7))) (up M7 b 6 (M7 x1 6))) (up M6 b 5 (M6 x1 5))) (up M b 4 (M x1 4))
def D0_becomes_c7 (b : Nat) (Q : MM → Prop) : Nat → Nat → Int32 → MM → Prop
  | 0, _, _, _ => False
  | n + 1, x1, x2, M => (((10 : Int32) ≤ x2 → D0_becomes_c67 b Q x1 M) ∧ (¬ (10 : Int32) ≤ x2 → ib (x1 + 1) x2 ∧ ib (b + 1) x2 ∧ (fun M1 : MM => ib (x1 + 2) x2 ∧ ib (b + 2) x2 ∧ (fun M2 : MM => ib (x1 + 3) x2 ∧ ib (b + 3) x2 ∧ (fun M3 : MM => ib (x1 + 4) x2 ∧ ib (b + 4) x2 ∧ (fun M4 : MM => (fun v5 : Int32 => D0_becomes_c7 b Q n x1 v5 M4) (x2 + (1 : Int32))) (up M3 (b + 4) (ix x2) (M3 (x1 + 4) (ix x2)))) (up M2 (b + 3) (ix x2) (M2 (x1 + 3) (ix x2)))) (up M1 (b + 2) (ix x2) (M1 (x1 + 2) (ix x2)))) (up M (b + 1) (ix x2) (M (x1 + 1) (ix x2)))))
def D0_becomes (b : Nat) (x1 : Nat) (M : MM) (Q : MM → Prop) : Prop := D0_becomes_c7 b Q FU x1 (0 : Int32) M
set_option maxHeartbeats 4000000 in
set_option maxRecDepth 100000 in
theorem s0_becomes_c67 {G : GG} {b : Nat} (hb : ob b 0) {Q : MM → Prop} : ∀ (x1 : Nat) (M : MM), ob x1 0 → D0_becomes_c67 b Q x1 M → A0_becomes G Q 67 [(0, .ref (gA G b)), (1, .ref (gA G x1))] [] M := by
  intro x1 M hx1 h
  unfold D0_becomes_c67 at h
  refine a_aload_n dX0_becomes_67 0 rfl ?_
  refine a_aload_n dX0_becomes_68 1 rfl ?_
  refine a_get0 dX0_becomes_69 4 (by decide) (tbc _ kF_RX0_24) (fun w h => tbc _ (uW0 w h)) rfl hx1 rfl ?_
  refine a_put0 dX0_becomes_72 4 (by decide) (tbc _ kF_RX0_24) (fun w h => tbc _ (uW0 w h)) rfl rfl rfl rfl hb fs0_4 ?_
  refine a_aload_n dX0_becomes_75 0 rfl ?_
  refine a_aload_n dX0_becomes_76 1 rfl ?_
  refine a_get0 dX0_becomes_77 5 (by decide) (tbc _ kF_RX0_28) (fun w h => tbc _ (uW0 w h)) rfl hx1 rfl ?_
  refine a_put0 dX0_becomes_80 5 (by decide) (tbc _ kF_RX0_28) (fun w h => tbc _ (uW0 w h)) rfl rfl rfl rfl hb fs0_5 ?_
  refine a_aload_n dX0_becomes_83 0 rfl ?_
  refine a_aload_n dX0_becomes_84 1 rfl ?_
  refine a_get0 dX0_becomes_85 6 (by decide) (tbc _ kF_RX0_31) (fun w h => tbc _ (uW0 w h)) rfl hx1 rfl ?_
  refine a_put0 dX0_becomes_88 6 (by decide) (tbc _ kF_RX0_31) (fun w h => tbc _ (uW0 w h)) rfl rfl rfl rfl hb fs0_6 ?_
  refine a_aload_n dX0_becomes_91 0 rfl ?_
  refine a_aload_n dX0_becomes_92 1 rfl ?_
  refine a_get0 dX0_becomes_93 7 (by decide) (tbc _ kF_RX0_34) (fun w h => tbc _ (uW0 w h)) rfl hx1 rfl ?_
  refine a_put0 dX0_becomes_96 7 (by decide) (tbc _ kF_RX0_34) (fun w h => tbc _ (uW0 w h)) rfl rfl rfl rfl hb fs0_7 ?_
  refine a_aload_n dX0_becomes_99 0 rfl ?_
  refine a_aload_n dX0_becomes_100 1 rfl ?_
  refine a_get0 dX0_becomes_101 8 (by decide) (tbc _ kF_RX0_37) (fun w h => tbc _ (uW0 w h)) rfl hx1 rfl ?_
  refine a_put0 dX0_becomes_104 8 (by decide) (tbc _ kF_RX0_37) (fun w h => tbc _ (uW0 w h)) rfl rfl rfl rfl hb fs0_8 ?_
  exact a_vret dX0_becomes_107 ⟨rfl, h⟩
set_option maxHeartbeats 4000000 in
set_option maxRecDepth 100000 in
theorem s0_becomes_c7 {G : GG} {b : Nat} (hb : ob b 0) {Q : MM → Prop} : ∀ (n : Nat) (x1 : Nat) (x2 : Int32) (M : MM), ob x1 0 → D0_becomes_c7 b Q n x1 x2 M → A0_becomes G Q 7 [(0, .ref (gA G b)), (1, .ref (gA G x1)), (2, .int x2)] [] M := by
  intro n
  induction n with
  | zero => intro x1 x2 M hx1 h; exact h.elim
  | succ n ih =>
    intro x1 x2 M hx1 h
    unfold D0_becomes_c7 at h
    refine a_iload_n dX0_becomes_7 2 rfl ?_
    refine a_bipush (v := 10) dX0_becomes_8 (by decide) ?_
    refine a_icmp_ge (tgt := 67) dX0_becomes_10 (by decide) (fun c => ?_) (fun c => ?_)
    · have h := h.1 c
      refine a_sub [0, 1] rfl ?_
      exact s0_becomes_c67 hb _ _ hx1 h
    · have h := h.2 c
      refine a_aload_n dX0_becomes_13 0 rfl ?_
      refine a_get0 dX0_becomes_14 0 (by decide) (tbc _ kF_RX0_11) (fun w h => tbc _ (uW0 w h)) rfl hb rfl ?_
      refine a_iload_n dX0_becomes_17 2 rfl ?_
      refine a_aload_n dX0_becomes_18 1 rfl ?_
      refine a_get0 dX0_becomes_19 0 (by decide) (tbc _ kF_RX0_11) (fun w h => tbc _ (uW0 w h)) rfl hx1 rfl ?_
      refine a_iload_n dX0_becomes_22 2 rfl ?_
      refine a_iald dX0_becomes_23 h.1 ?_
      have h := h.2
      refine a_iast dX0_becomes_24 h.1 ?_
      have h := h.2
      refine a_aload_n dX0_becomes_25 0 rfl ?_
      refine a_get0 dX0_becomes_26 1 (by decide) (tbc _ kF_RX0_15) (fun w h => tbc _ (uW0 w h)) rfl hb rfl ?_
      refine a_iload_n dX0_becomes_29 2 rfl ?_
      refine a_aload_n dX0_becomes_30 1 rfl ?_
      refine a_get0 dX0_becomes_31 1 (by decide) (tbc _ kF_RX0_15) (fun w h => tbc _ (uW0 w h)) rfl hx1 rfl ?_
      refine a_iload_n dX0_becomes_34 2 rfl ?_
      refine a_iald dX0_becomes_35 h.1 ?_
      have h := h.2
      refine a_iast dX0_becomes_36 h.1 ?_
      have h := h.2
      refine a_aload_n dX0_becomes_37 0 rfl ?_
      refine a_get0 dX0_becomes_38 2 (by decide) (tbc _ kF_RX0_18) (fun w h => tbc _ (uW0 w h)) rfl hb rfl ?_
      refine a_iload_n dX0_becomes_41 2 rfl ?_
      refine a_aload_n dX0_becomes_42 1 rfl ?_
      refine a_get0 dX0_becomes_43 2 (by decide) (tbc _ kF_RX0_18) (fun w h => tbc _ (uW0 w h)) rfl hx1 rfl ?_
      refine a_iload_n dX0_becomes_46 2 rfl ?_
      refine a_iald dX0_becomes_47 h.1 ?_
      have h := h.2
      refine a_iast dX0_becomes_48 h.1 ?_
      have h := h.2
      refine a_aload_n dX0_becomes_49 0 rfl ?_
      refine a_get0 dX0_becomes_50 3 (by decide) (tbc _ kF_RX0_21) (fun w h => tbc _ (uW0 w h)) rfl hb rfl ?_
      refine a_iload_n dX0_becomes_53 2 rfl ?_
      refine a_aload_n dX0_becomes_54 1 rfl ?_
      refine a_get0 dX0_becomes_55 3 (by decide) (tbc _ kF_RX0_21) (fun w h => tbc _ (uW0 w h)) rfl hx1 rfl ?_
      refine a_iload_n dX0_becomes_58 2 rfl ?_
      refine a_iald dX0_becomes_59 h.1 ?_
      have h := h.2
      refine a_iast dX0_becomes_60 h.1 ?_
      have h := h.2
      refine a_iinc (L' := [(2, .int _), (0, .ref _), (1, .ref _)]) dX0_becomes_61 2 rfl (show _ + Int32.ofInt (1 : Int) = _ + (1 : Int32) from rfl) (by decide) rfl ?_
      refine a_goto (tgt := 7) dX0_becomes_64 (by decide) ?_
      refine a_sub [1, 2, 0] rfl ?_
      exact ih _ _ _ hx1 h
set_option maxHeartbeats 4000000 in
set_option maxRecDepth 100000 in
theorem s0_becomes {G : GG} {b : Nat} (hb : ob b 0) {x1 : Nat} {M : MM} {Q : MM → Prop} (hx1 : ob x1 0) (h : D0_becomes b x1 M Q) : CM G yX0_becomes (WY yX0_becomes cX0_becomes 3 none) 0 0 [.ref (gA G b), .ref (gA G x1)] M (qV Q) := by
  refine CM.of (cc := cX0_becomes) (nL := 3) (ret := none) (own := RX0) (by decide +kernel) rfl rfl (Nat.le_of_ble_eq_true rfl) ?_
  show A0_becomes G Q 0 [(0, .ref (gA G b)), (1, .ref (gA G x1))] [] M
  unfold D0_becomes at h
  refine a_aload_n dX0_becomes_0 1 rfl ?_
  refine a_ifnonnull (tgt := 5) dX0_becomes_1 (by decide) ?_
  refine a_iconst (v := 0) dX0_becomes_5 (by decide) ?_
  refine a_istore_n (i := 2) (L' := [(2, .int _), (0, .ref _), (1, .ref _)]) dX0_becomes_6 rfl (by decide) rfl ?_
  refine a_sub [1, 2, 0] rfl ?_
  exact s0_becomes_c7 hb _ _ _ _ hx1 h

/-! X0_knows -/
theorem dX0_knows_0 : decode cX0_knows 0 = .ok (.iload_n 1, 1) := by decide +kernel
theorem dX0_knows_1 : decode cX0_knows 1 = .ok (.ifCond .lt 21, 3) := by decide +kernel
theorem dX0_knows_4 : decode cX0_knows 4 = .ok (.iload_n 1, 1) := by decide +kernel
theorem dX0_knows_5 : decode cX0_knows 5 = .ok (.aload_n 0, 1) := by decide +kernel
theorem dX0_knows_6 : decode cX0_knows 6 = .ok (.getfield 24, 3) := by decide +kernel
theorem dX0_knows_9 : decode cX0_knows 9 = .ok (.if_icmp .ge 13, 3) := by decide +kernel
theorem dX0_knows_12 : decode cX0_knows 12 = .ok (.iload_n 1, 1) := by decide +kernel
theorem dX0_knows_13 : decode cX0_knows 13 = .ok (.bipush 10, 2) := by decide +kernel
theorem dX0_knows_15 : decode cX0_knows 15 = .ok (.if_icmp .ge 7, 3) := by decide +kernel
theorem dX0_knows_18 : decode cX0_knows 18 = .ok (.iconst 1, 1) := by decide +kernel
theorem dX0_knows_19 : decode cX0_knows 19 = .ok (.goto 4, 3) := by decide +kernel
theorem dX0_knows_22 : decode cX0_knows 22 = .ok (.iconst 0, 1) := by decide +kernel
theorem dX0_knows_23 : decode cX0_knows 23 = .ok (.ireturn, 1) := by decide +kernel
abbrev A0_knows (G : GG) (Q : Int32 → MM → Prop) := AW G E0 (MZ G (qI Q)) (WY yX0_knows cX0_knows 2 (some .boolean)) RX0 cX0_knows 2 (some .boolean) ({ frames := 0, cells := 0, slots := 0, locals := 0 } : Room) 0 0
def D0_knows (b : Nat) (x1 : Int32) (M : MM) (Q : Int32 → MM → Prop) : Prop := ((x1 < 0 → Q (0 : Int32) M) ∧ (¬ x1 < 0 → (((M b 4) ≤ x1 → Q (0 : Int32) M) ∧ (¬ (M b 4) ≤ x1 → (((10 : Int32) ≤ x1 → Q (0 : Int32) M) ∧ (¬ (10 : Int32) ≤ x1 → Q (1 : Int32) M))))))
set_option maxHeartbeats 4000000 in
set_option maxRecDepth 100000 in
theorem s0_knows {G : GG} {b : Nat} (hb : ob b 0) {x1 : Int32} {M : MM} {Q : Int32 → MM → Prop} (h : D0_knows b x1 M Q) : CM G yX0_knows (WY yX0_knows cX0_knows 2 (some .boolean)) 0 0 [.ref (gA G b), .int x1] M (qI Q) := by
  refine CM.of (cc := cX0_knows) (nL := 2) (ret := (some .boolean)) (own := RX0) (by decide +kernel) rfl rfl (Nat.le_of_ble_eq_true rfl) ?_
  show A0_knows G Q 0 [(0, .ref (gA G b)), (1, .int x1)] [] M
  unfold D0_knows at h
  refine a_iload_n dX0_knows_0 1 rfl ?_
  refine a_if_lt (tgt := 22) dX0_knows_1 (by decide) (fun c => ?_) (fun c => ?_)
  · have h := h.1 c
    refine a_iconst (v := 0) dX0_knows_22 (by decide) ?_
    exact a_zret dX0_knows_23 (Or.inl rfl) ⟨_, rfl, h⟩
  · have h := h.2 c
    refine a_iload_n dX0_knows_4 1 rfl ?_
    refine a_aload_n dX0_knows_5 0 rfl ?_
    refine a_get0 dX0_knows_6 4 (by decide) (tbc _ kF_RX0_24) (fun w h => tbc _ (uW0 w h)) rfl hb rfl ?_
    refine a_icmp_ge (tgt := 22) dX0_knows_9 (by decide) (fun c => ?_) (fun c => ?_)
    · have h := h.1 c
      refine a_iconst (v := 0) dX0_knows_22 (by decide) ?_
      exact a_zret dX0_knows_23 (Or.inl rfl) ⟨_, rfl, h⟩
    · have h := h.2 c
      refine a_iload_n dX0_knows_12 1 rfl ?_
      refine a_bipush (v := 10) dX0_knows_13 (by decide) ?_
      refine a_icmp_ge (tgt := 22) dX0_knows_15 (by decide) (fun c => ?_) (fun c => ?_)
      · have h := h.1 c
        refine a_iconst (v := 0) dX0_knows_22 (by decide) ?_
        exact a_zret dX0_knows_23 (Or.inl rfl) ⟨_, rfl, h⟩
      · have h := h.2 c
        refine a_iconst (v := 1) dX0_knows_18 (by decide) ?_
        refine a_goto (tgt := 23) dX0_knows_19 (by decide) ?_
        exact a_zret dX0_knows_23 (Or.inr rfl) ⟨_, rfl, h⟩

/-! X0_kindOf -/
theorem dX0_kindOf_0 : decode cX0_kindOf 0 = .ok (.aload_n 0, 1) := by decide +kernel
theorem dX0_kindOf_1 : decode cX0_kindOf 1 = .ok (.iload_n 1, 1) := by decide +kernel
theorem dX0_kindOf_2 : decode cX0_kindOf 2 = .ok (.invokevirtual 40, 3) := by decide +kernel
theorem dX0_kindOf_5 : decode cX0_kindOf 5 = .ok (.ifCond .eq 12, 3) := by decide +kernel
theorem dX0_kindOf_8 : decode cX0_kindOf 8 = .ok (.aload_n 0, 1) := by decide +kernel
theorem dX0_kindOf_9 : decode cX0_kindOf 9 = .ok (.getfield 11, 3) := by decide +kernel
theorem dX0_kindOf_12 : decode cX0_kindOf 12 = .ok (.iload_n 1, 1) := by decide +kernel
theorem dX0_kindOf_13 : decode cX0_kindOf 13 = .ok (.iaload, 1) := by decide +kernel
theorem dX0_kindOf_14 : decode cX0_kindOf 14 = .ok (.goto 4, 3) := by decide +kernel
theorem dX0_kindOf_17 : decode cX0_kindOf 17 = .ok (.iconst 0, 1) := by decide +kernel
theorem dX0_kindOf_18 : decode cX0_kindOf 18 = .ok (.ireturn, 1) := by decide +kernel
abbrev A0_kindOf (G : GG) (Q : Int32 → MM → Prop) := AW G E0 (MZ G (qI Q)) (WY yX0_kindOf cX0_kindOf 2 (some .int)) RX0 cX0_kindOf 2 (some .int) ({ frames := 1, cells := 0, slots := 0, locals := 21 } : Room) 0 0
def D0_kindOf (b : Nat) (x1 : Int32) (M : MM) (Q : Int32 → MM → Prop) : Prop := D0_knows b x1 M (fun (r1 : Int32) (M2 : MM) => ((r1 = 0 → Q (0 : Int32) M2) ∧ (¬ r1 = 0 → ib (b + 1) x1 ∧ Q (M2 (b + 1) (ix x1)) M2)))
set_option maxHeartbeats 4000000 in
set_option maxRecDepth 100000 in
theorem s0_kindOf {G : GG} {b : Nat} (hb : ob b 0) {x1 : Int32} {M : MM} {Q : Int32 → MM → Prop} (h : D0_kindOf b x1 M Q) : CM G yX0_kindOf (WY yX0_kindOf cX0_kindOf 2 (some .int)) 1 21 [.ref (gA G b), .int x1] M (qI Q) := by
  refine CM.of (cc := cX0_kindOf) (nL := 2) (ret := (some .int)) (own := RX0) (by decide +kernel) rfl rfl (Nat.le_of_ble_eq_true rfl) ?_
  show A0_kindOf G Q 0 [(0, .ref (gA G b)), (1, .int x1)] [] M
  unfold D0_kindOf at h
  refine a_aload_n dX0_kindOf_0 0 rfl ?_
  refine a_iload_n dX0_kindOf_1 1 rfl ?_
  refine a_callVi (n := 1) [.int _] (C := RX0) (ci := 0) (qc := (RX0, TX0, 9)) (fsF := fl0 G _) hb.1 (fun _ => en0 hb.2) rfl rfl dX0_kindOf_2 (s0_knows hb h) (gV tbc kM_RX0_40_X0_knows kI_X0_knows kS_X0_knows kN_RX0 kC_X0_knows) rfl (by decide +kernel) ⟨Nat.le_of_ble_eq_true rfl, Nat.le_of_ble_eq_true rfl⟩ rfl rfl (Nat.le_of_ble_eq_true rfl) ⟨Nat.le_refl 0, Nat.le_refl 0⟩ (fun r M h => ?_)
  refine a_if_eq (tgt := 17) dX0_kindOf_5 (by decide) (fun c => ?_) (fun c => ?_)
  · have h := h.1 c
    refine a_iconst (v := 0) dX0_kindOf_17 (by decide) ?_
    exact a_iret dX0_kindOf_18 ⟨_, rfl, h⟩
  · have h := h.2 c
    refine a_aload_n dX0_kindOf_8 0 rfl ?_
    refine a_get0 dX0_kindOf_9 0 (by decide) (tbc _ kF_RX0_11) (fun w h => tbc _ (uW0 w h)) rfl hb rfl ?_
    refine a_iload_n dX0_kindOf_12 1 rfl ?_
    refine a_iald dX0_kindOf_13 h.1 ?_
    have h := h.2
    refine a_goto (tgt := 18) dX0_kindOf_14 (by decide) ?_
    exact a_iret dX0_kindOf_18 ⟨_, rfl, h⟩

/-! X0_figureOf -/
theorem dX0_figureOf_0 : decode cX0_figureOf 0 = .ok (.aload_n 0, 1) := by decide +kernel
theorem dX0_figureOf_1 : decode cX0_figureOf 1 = .ok (.iload_n 1, 1) := by decide +kernel
theorem dX0_figureOf_2 : decode cX0_figureOf 2 = .ok (.invokevirtual 40, 3) := by decide +kernel
theorem dX0_figureOf_5 : decode cX0_figureOf 5 = .ok (.ifCond .eq 12, 3) := by decide +kernel
theorem dX0_figureOf_8 : decode cX0_figureOf 8 = .ok (.aload_n 0, 1) := by decide +kernel
theorem dX0_figureOf_9 : decode cX0_figureOf 9 = .ok (.getfield 15, 3) := by decide +kernel
theorem dX0_figureOf_12 : decode cX0_figureOf 12 = .ok (.iload_n 1, 1) := by decide +kernel
theorem dX0_figureOf_13 : decode cX0_figureOf 13 = .ok (.iaload, 1) := by decide +kernel
theorem dX0_figureOf_14 : decode cX0_figureOf 14 = .ok (.goto 4, 3) := by decide +kernel
theorem dX0_figureOf_17 : decode cX0_figureOf 17 = .ok (.iconst 0, 1) := by decide +kernel
theorem dX0_figureOf_18 : decode cX0_figureOf 18 = .ok (.ireturn, 1) := by decide +kernel
abbrev A0_figureOf (G : GG) (Q : Int32 → MM → Prop) := AW G E0 (MZ G (qI Q)) (WY yX0_figureOf cX0_figureOf 2 (some .int)) RX0 cX0_figureOf 2 (some .int) ({ frames := 1, cells := 0, slots := 0, locals := 21 } : Room) 0 0
def D0_figureOf (b : Nat) (x1 : Int32) (M : MM) (Q : Int32 → MM → Prop) : Prop := D0_knows b x1 M (fun (r1 : Int32) (M2 : MM) => ((r1 = 0 → Q (0 : Int32) M2) ∧ (¬ r1 = 0 → ib (b + 2) x1 ∧ Q (M2 (b + 2) (ix x1)) M2)))
set_option maxHeartbeats 4000000 in
set_option maxRecDepth 100000 in
theorem s0_figureOf {G : GG} {b : Nat} (hb : ob b 0) {x1 : Int32} {M : MM} {Q : Int32 → MM → Prop} (h : D0_figureOf b x1 M Q) : CM G yX0_figureOf (WY yX0_figureOf cX0_figureOf 2 (some .int)) 1 21 [.ref (gA G b), .int x1] M (qI Q) := by
  refine CM.of (cc := cX0_figureOf) (nL := 2) (ret := (some .int)) (own := RX0) (by decide +kernel) rfl rfl (Nat.le_of_ble_eq_true rfl) ?_
  show A0_figureOf G Q 0 [(0, .ref (gA G b)), (1, .int x1)] [] M
  unfold D0_figureOf at h
  refine a_aload_n dX0_figureOf_0 0 rfl ?_
  refine a_iload_n dX0_figureOf_1 1 rfl ?_
  refine a_callVi (n := 1) [.int _] (C := RX0) (ci := 0) (qc := (RX0, TX0, 9)) (fsF := fl0 G _) hb.1 (fun _ => en0 hb.2) rfl rfl dX0_figureOf_2 (s0_knows hb h) (gV tbc kM_RX0_40_X0_knows kI_X0_knows kS_X0_knows kN_RX0 kC_X0_knows) rfl (by decide +kernel) ⟨Nat.le_of_ble_eq_true rfl, Nat.le_of_ble_eq_true rfl⟩ rfl rfl (Nat.le_of_ble_eq_true rfl) ⟨Nat.le_refl 0, Nat.le_refl 0⟩ (fun r M h => ?_)
  refine a_if_eq (tgt := 17) dX0_figureOf_5 (by decide) (fun c => ?_) (fun c => ?_)
  · have h := h.1 c
    refine a_iconst (v := 0) dX0_figureOf_17 (by decide) ?_
    exact a_iret dX0_figureOf_18 ⟨_, rfl, h⟩
  · have h := h.2 c
    refine a_aload_n dX0_figureOf_8 0 rfl ?_
    refine a_get0 dX0_figureOf_9 1 (by decide) (tbc _ kF_RX0_15) (fun w h => tbc _ (uW0 w h)) rfl hb rfl ?_
    refine a_iload_n dX0_figureOf_12 1 rfl ?_
    refine a_iald dX0_figureOf_13 h.1 ?_
    have h := h.2
    refine a_goto (tgt := 18) dX0_figureOf_14 (by decide) ?_
    exact a_iret dX0_figureOf_18 ⟨_, rfl, h⟩

/-! X0_holdsOf -/
theorem dX0_holdsOf_0 : decode cX0_holdsOf 0 = .ok (.aload_n 0, 1) := by decide +kernel
theorem dX0_holdsOf_1 : decode cX0_holdsOf 1 = .ok (.iload_n 1, 1) := by decide +kernel
theorem dX0_holdsOf_2 : decode cX0_holdsOf 2 = .ok (.invokevirtual 44, 3) := by decide +kernel
theorem dX0_holdsOf_5 : decode cX0_holdsOf 5 = .ok (.aload_n 0, 1) := by decide +kernel
theorem dX0_holdsOf_6 : decode cX0_holdsOf 6 = .ok (.iload_n 1, 1) := by decide +kernel
theorem dX0_holdsOf_7 : decode cX0_holdsOf 7 = .ok (.invokevirtual 48, 3) := by decide +kernel
theorem dX0_holdsOf_10 : decode cX0_holdsOf 10 = .ok (.invokestatic 51, 3) := by decide +kernel
theorem dX0_holdsOf_13 : decode cX0_holdsOf 13 = .ok (.ireturn, 1) := by decide +kernel
abbrev A0_holdsOf (G : GG) (Q : Int32 → MM → Prop) := AW G E0 (MZ G (qI Q)) (WY yX0_holdsOf cX0_holdsOf 2 (some .int)) RX0 cX0_holdsOf 2 (some .int) ({ frames := 2, cells := 0, slots := 0, locals := 42 } : Room) 0 0
def D0_holdsOf (b : Nat) (x1 : Int32) (M : MM) (Q : Int32 → MM → Prop) : Prop := D0_kindOf b x1 M (fun (r1 : Int32) (M2 : MM) => D0_figureOf b x1 M2 (fun (r3 : Int32) (M4 : MM) => D1_holdsFor r1 r3 M4 (fun (r5 : Int32) (M6 : MM) => Q r5 M6)))
set_option maxHeartbeats 4000000 in
set_option maxRecDepth 100000 in
theorem s0_holdsOf {G : GG} {b : Nat} (hb : ob b 0) {x1 : Int32} {M : MM} {Q : Int32 → MM → Prop} (h : D0_holdsOf b x1 M Q) : CM G yX0_holdsOf (WY yX0_holdsOf cX0_holdsOf 2 (some .int)) 2 42 [.ref (gA G b), .int x1] M (qI Q) := by
  refine CM.of (cc := cX0_holdsOf) (nL := 2) (ret := (some .int)) (own := RX0) (by decide +kernel) rfl rfl (Nat.le_of_ble_eq_true rfl) ?_
  show A0_holdsOf G Q 0 [(0, .ref (gA G b)), (1, .int x1)] [] M
  unfold D0_holdsOf at h
  refine a_aload_n dX0_holdsOf_0 0 rfl ?_
  refine a_iload_n dX0_holdsOf_1 1 rfl ?_
  refine a_callVi (n := 1) [.int _] (C := RX0) (ci := 0) (qc := (RX0, TX0, 9)) (fsF := fl0 G _) hb.1 (fun _ => en0 hb.2) rfl rfl dX0_holdsOf_2 (s0_kindOf hb h) (gV tbc kM_RX0_44_X0_kindOf kI_X0_kindOf kS_X0_kindOf kN_RX0 kC_X0_kindOf) rfl (by decide +kernel) ⟨Nat.le_of_ble_eq_true rfl, Nat.le_of_ble_eq_true rfl⟩ rfl rfl (Nat.le_of_ble_eq_true rfl) ⟨Nat.le_refl 0, Nat.le_refl 0⟩ (fun r M h => ?_)
  refine a_aload_n dX0_holdsOf_5 0 rfl ?_
  refine a_iload_n dX0_holdsOf_6 1 rfl ?_
  refine a_callVi (n := 1) [.int _] (C := RX0) (ci := 0) (qc := (RX0, TX0, 9)) (fsF := fl0 G _) hb.1 (fun _ => en0 hb.2) rfl rfl dX0_holdsOf_7 (s0_figureOf hb h) (gV tbc kM_RX0_48_X0_figureOf kI_X0_figureOf kS_X0_figureOf kN_RX0 kC_X0_figureOf) rfl (by decide +kernel) ⟨Nat.le_of_ble_eq_true rfl, Nat.le_of_ble_eq_true rfl⟩ rfl rfl (Nat.le_of_ble_eq_true rfl) ⟨Nat.le_refl 0, Nat.le_refl 0⟩ (fun r M h => ?_)
  refine a_callSi (n := 2) [.int _, .int _] dX0_holdsOf_10 (s1_holdsFor h) (gS tbc kM_RX0_51_X1_holdsFor kT_X1_holdsFor kN_RX1 kC_X1_holdsFor) rfl (by decide +kernel) ⟨Nat.le_of_ble_eq_true rfl, Nat.le_of_ble_eq_true rfl⟩ rfl rfl (Nat.le_of_ble_eq_true rfl) ⟨Nat.le_refl 0, Nat.le_refl 0⟩ (fun r M h => ?_)
  exact a_iret dX0_holdsOf_13 ⟨_, rfl, h⟩

/-! X0_wornOf -/
theorem dX0_wornOf_0 : decode cX0_wornOf 0 = .ok (.aload_n 0, 1) := by decide +kernel
theorem dX0_wornOf_1 : decode cX0_wornOf 1 = .ok (.iload_n 1, 1) := by decide +kernel
theorem dX0_wornOf_2 : decode cX0_wornOf 2 = .ok (.invokevirtual 40, 3) := by decide +kernel
theorem dX0_wornOf_5 : decode cX0_wornOf 5 = .ok (.ifCond .eq 12, 3) := by decide +kernel
theorem dX0_wornOf_8 : decode cX0_wornOf 8 = .ok (.aload_n 0, 1) := by decide +kernel
theorem dX0_wornOf_9 : decode cX0_wornOf 9 = .ok (.getfield 21, 3) := by decide +kernel
theorem dX0_wornOf_12 : decode cX0_wornOf 12 = .ok (.iload_n 1, 1) := by decide +kernel
theorem dX0_wornOf_13 : decode cX0_wornOf 13 = .ok (.iaload, 1) := by decide +kernel
theorem dX0_wornOf_14 : decode cX0_wornOf 14 = .ok (.goto 4, 3) := by decide +kernel
theorem dX0_wornOf_17 : decode cX0_wornOf 17 = .ok (.iconst 0, 1) := by decide +kernel
theorem dX0_wornOf_18 : decode cX0_wornOf 18 = .ok (.ireturn, 1) := by decide +kernel
abbrev A0_wornOf (G : GG) (Q : Int32 → MM → Prop) := AW G E0 (MZ G (qI Q)) (WY yX0_wornOf cX0_wornOf 2 (some .int)) RX0 cX0_wornOf 2 (some .int) ({ frames := 1, cells := 0, slots := 0, locals := 21 } : Room) 0 0
def D0_wornOf (b : Nat) (x1 : Int32) (M : MM) (Q : Int32 → MM → Prop) : Prop := D0_knows b x1 M (fun (r1 : Int32) (M2 : MM) => ((r1 = 0 → Q (0 : Int32) M2) ∧ (¬ r1 = 0 → ib (b + 4) x1 ∧ Q (M2 (b + 4) (ix x1)) M2)))
set_option maxHeartbeats 4000000 in
set_option maxRecDepth 100000 in
theorem s0_wornOf {G : GG} {b : Nat} (hb : ob b 0) {x1 : Int32} {M : MM} {Q : Int32 → MM → Prop} (h : D0_wornOf b x1 M Q) : CM G yX0_wornOf (WY yX0_wornOf cX0_wornOf 2 (some .int)) 1 21 [.ref (gA G b), .int x1] M (qI Q) := by
  refine CM.of (cc := cX0_wornOf) (nL := 2) (ret := (some .int)) (own := RX0) (by decide +kernel) rfl rfl (Nat.le_of_ble_eq_true rfl) ?_
  show A0_wornOf G Q 0 [(0, .ref (gA G b)), (1, .int x1)] [] M
  unfold D0_wornOf at h
  refine a_aload_n dX0_wornOf_0 0 rfl ?_
  refine a_iload_n dX0_wornOf_1 1 rfl ?_
  refine a_callVi (n := 1) [.int _] (C := RX0) (ci := 0) (qc := (RX0, TX0, 9)) (fsF := fl0 G _) hb.1 (fun _ => en0 hb.2) rfl rfl dX0_wornOf_2 (s0_knows hb h) (gV tbc kM_RX0_40_X0_knows kI_X0_knows kS_X0_knows kN_RX0 kC_X0_knows) rfl (by decide +kernel) ⟨Nat.le_of_ble_eq_true rfl, Nat.le_of_ble_eq_true rfl⟩ rfl rfl (Nat.le_of_ble_eq_true rfl) ⟨Nat.le_refl 0, Nat.le_refl 0⟩ (fun r M h => ?_)
  refine a_if_eq (tgt := 17) dX0_wornOf_5 (by decide) (fun c => ?_) (fun c => ?_)
  · have h := h.1 c
    refine a_iconst (v := 0) dX0_wornOf_17 (by decide) ?_
    exact a_iret dX0_wornOf_18 ⟨_, rfl, h⟩
  · have h := h.2 c
    refine a_aload_n dX0_wornOf_8 0 rfl ?_
    refine a_get0 dX0_wornOf_9 3 (by decide) (tbc _ kF_RX0_21) (fun w h => tbc _ (uW0 w h)) rfl hb rfl ?_
    refine a_iload_n dX0_wornOf_12 1 rfl ?_
    refine a_iald dX0_wornOf_13 h.1 ?_
    have h := h.2
    refine a_goto (tgt := 18) dX0_wornOf_14 (by decide) ?_
    exact a_iret dX0_wornOf_18 ⟨_, rfl, h⟩

/-! X0_beyond -/
theorem dX0_beyond_0 : decode cX0_beyond 0 = .ok (.aload_n 0, 1) := by decide +kernel
theorem dX0_beyond_1 : decode cX0_beyond 1 = .ok (.iload_n 1, 1) := by decide +kernel
theorem dX0_beyond_2 : decode cX0_beyond 2 = .ok (.invokevirtual 111, 3) := by decide +kernel
theorem dX0_beyond_5 : decode cX0_beyond 5 = .ok (.aload_n 0, 1) := by decide +kernel
theorem dX0_beyond_6 : decode cX0_beyond 6 = .ok (.iload_n 1, 1) := by decide +kernel
theorem dX0_beyond_7 : decode cX0_beyond 7 = .ok (.invokevirtual 114, 3) := by decide +kernel
theorem dX0_beyond_10 : decode cX0_beyond 10 = .ok (.isub, 1) := by decide +kernel
theorem dX0_beyond_11 : decode cX0_beyond 11 = .ok (.ireturn, 1) := by decide +kernel
abbrev A0_beyond (G : GG) (Q : Int32 → MM → Prop) := AW G E0 (MZ G (qI Q)) (WY yX0_beyond cX0_beyond 2 (some .int)) RX0 cX0_beyond 2 (some .int) ({ frames := 3, cells := 0, slots := 0, locals := 63 } : Room) 0 0
def D0_beyond (b : Nat) (x1 : Int32) (M : MM) (Q : Int32 → MM → Prop) : Prop := D0_holdsOf b x1 M (fun (r1 : Int32) (M2 : MM) => D0_wornOf b x1 M2 (fun (r3 : Int32) (M4 : MM) => Q (r1 - r3) M4))
set_option maxHeartbeats 4000000 in
set_option maxRecDepth 100000 in
theorem s0_beyond {G : GG} {b : Nat} (hb : ob b 0) {x1 : Int32} {M : MM} {Q : Int32 → MM → Prop} (h : D0_beyond b x1 M Q) : CM G yX0_beyond (WY yX0_beyond cX0_beyond 2 (some .int)) 3 63 [.ref (gA G b), .int x1] M (qI Q) := by
  refine CM.of (cc := cX0_beyond) (nL := 2) (ret := (some .int)) (own := RX0) (by decide +kernel) rfl rfl (Nat.le_of_ble_eq_true rfl) ?_
  show A0_beyond G Q 0 [(0, .ref (gA G b)), (1, .int x1)] [] M
  unfold D0_beyond at h
  refine a_aload_n dX0_beyond_0 0 rfl ?_
  refine a_iload_n dX0_beyond_1 1 rfl ?_
  refine a_callVi (n := 1) [.int _] (C := RX0) (ci := 0) (qc := (RX0, TX0, 9)) (fsF := fl0 G _) hb.1 (fun _ => en0 hb.2) rfl rfl dX0_beyond_2 (s0_holdsOf hb h) (gV tbc kM_RX0_111_X0_holdsOf kI_X0_holdsOf kS_X0_holdsOf kN_RX0 kC_X0_holdsOf) rfl (by decide +kernel) ⟨Nat.le_of_ble_eq_true rfl, Nat.le_of_ble_eq_true rfl⟩ rfl rfl (Nat.le_of_ble_eq_true rfl) ⟨Nat.le_refl 0, Nat.le_refl 0⟩ (fun r M h => ?_)
  refine a_aload_n dX0_beyond_5 0 rfl ?_
  refine a_iload_n dX0_beyond_6 1 rfl ?_
  refine a_callVi (n := 1) [.int _] (C := RX0) (ci := 0) (qc := (RX0, TX0, 9)) (fsF := fl0 G _) hb.1 (fun _ => en0 hb.2) rfl rfl dX0_beyond_7 (s0_wornOf hb h) (gV tbc kM_RX0_114_X0_wornOf kI_X0_wornOf kS_X0_wornOf kN_RX0 kC_X0_wornOf) rfl (by decide +kernel) ⟨Nat.le_of_ble_eq_true rfl, Nat.le_of_ble_eq_true rfl⟩ rfl rfl (Nat.le_of_ble_eq_true rfl) ⟨Nat.le_refl 0, Nat.le_refl 0⟩ (fun r M h => ?_)
  refine a_isub dX0_beyond_10 ?_
  exact a_iret dX0_beyond_11 ⟨_, rfl, h⟩

/-! X0_builds -/
theorem dX0_builds_0 : decode cX0_builds 0 = .ok (.aload_n 0, 1) := by decide +kernel
theorem dX0_builds_1 : decode cX0_builds 1 = .ok (.getfield 24, 3) := by decide +kernel
theorem dX0_builds_4 : decode cX0_builds 4 = .ok (.istore 4, 2) := by decide +kernel
theorem dX0_builds_6 : decode cX0_builds 6 = .ok (.iload 4, 2) := by decide +kernel
theorem dX0_builds_8 : decode cX0_builds 8 = .ok (.ifCond .lt 10, 3) := by decide +kernel
theorem dX0_builds_11 : decode cX0_builds 11 = .ok (.iload 4, 2) := by decide +kernel
theorem dX0_builds_13 : decode cX0_builds 13 = .ok (.bipush 10, 2) := by decide +kernel
theorem dX0_builds_15 : decode cX0_builds 15 = .ok (.if_icmp .lt 4, 3) := by decide +kernel
theorem dX0_builds_18 : decode cX0_builds 18 = .ok (.return_, 1) := by decide +kernel
theorem dX0_builds_19 : decode cX0_builds 19 = .ok (.aload_n 0, 1) := by decide +kernel
theorem dX0_builds_20 : decode cX0_builds 20 = .ok (.getfield 11, 3) := by decide +kernel
theorem dX0_builds_23 : decode cX0_builds 23 = .ok (.iload 4, 2) := by decide +kernel
theorem dX0_builds_25 : decode cX0_builds 25 = .ok (.iload_n 1, 1) := by decide +kernel
theorem dX0_builds_26 : decode cX0_builds 26 = .ok (.iastore, 1) := by decide +kernel
theorem dX0_builds_27 : decode cX0_builds 27 = .ok (.aload_n 0, 1) := by decide +kernel
theorem dX0_builds_28 : decode cX0_builds 28 = .ok (.getfield 15, 3) := by decide +kernel
theorem dX0_builds_31 : decode cX0_builds 31 = .ok (.iload 4, 2) := by decide +kernel
theorem dX0_builds_33 : decode cX0_builds 33 = .ok (.iload_n 2, 1) := by decide +kernel
theorem dX0_builds_34 : decode cX0_builds 34 = .ok (.iastore, 1) := by decide +kernel
theorem dX0_builds_35 : decode cX0_builds 35 = .ok (.aload_n 0, 1) := by decide +kernel
theorem dX0_builds_36 : decode cX0_builds 36 = .ok (.getfield 18, 3) := by decide +kernel
theorem dX0_builds_39 : decode cX0_builds 39 = .ok (.iload 4, 2) := by decide +kernel
theorem dX0_builds_41 : decode cX0_builds 41 = .ok (.iload_n 3, 1) := by decide +kernel
theorem dX0_builds_42 : decode cX0_builds 42 = .ok (.iastore, 1) := by decide +kernel
theorem dX0_builds_43 : decode cX0_builds 43 = .ok (.aload_n 0, 1) := by decide +kernel
theorem dX0_builds_44 : decode cX0_builds 44 = .ok (.getfield 21, 3) := by decide +kernel
theorem dX0_builds_47 : decode cX0_builds 47 = .ok (.iload 4, 2) := by decide +kernel
theorem dX0_builds_49 : decode cX0_builds 49 = .ok (.iconst 0, 1) := by decide +kernel
theorem dX0_builds_50 : decode cX0_builds 50 = .ok (.iastore, 1) := by decide +kernel
theorem dX0_builds_51 : decode cX0_builds 51 = .ok (.aload_n 0, 1) := by decide +kernel
theorem dX0_builds_52 : decode cX0_builds 52 = .ok (.dup, 1) := by decide +kernel
theorem dX0_builds_53 : decode cX0_builds 53 = .ok (.getfield 28, 3) := by decide +kernel
theorem dX0_builds_56 : decode cX0_builds 56 = .ok (.iconst 1, 1) := by decide +kernel
theorem dX0_builds_57 : decode cX0_builds 57 = .ok (.iload 4, 2) := by decide +kernel
theorem dX0_builds_59 : decode cX0_builds 59 = .ok (.ishl, 1) := by decide +kernel
theorem dX0_builds_60 : decode cX0_builds 60 = .ok (.ior, 1) := by decide +kernel
theorem dX0_builds_61 : decode cX0_builds 61 = .ok (.putfield 28, 3) := by decide +kernel
theorem dX0_builds_64 : decode cX0_builds 64 = .ok (.aload_n 0, 1) := by decide +kernel
theorem dX0_builds_65 : decode cX0_builds 65 = .ok (.dup, 1) := by decide +kernel
theorem dX0_builds_66 : decode cX0_builds 66 = .ok (.getfield 24, 3) := by decide +kernel
theorem dX0_builds_69 : decode cX0_builds 69 = .ok (.iconst 1, 1) := by decide +kernel
theorem dX0_builds_70 : decode cX0_builds 70 = .ok (.iadd, 1) := by decide +kernel
theorem dX0_builds_71 : decode cX0_builds 71 = .ok (.putfield 24, 3) := by decide +kernel
theorem dX0_builds_74 : decode cX0_builds 74 = .ok (.return_, 1) := by decide +kernel
abbrev A0_builds (G : GG) (Q : MM → Prop) := AW G E0 (MZ G (qV Q)) (WY yX0_builds cX0_builds 5 none) RX0 cX0_builds 5 none ({ frames := 0, cells := 0, slots := 0, locals := 0 } : Room) 0 0
def D0_builds (b : Nat) (x1 : Int32) (x2 : Int32) (x3 : Int32) (M : MM) (Q : MM → Prop) : Prop := (fun v1 : Int32 => ((v1 < 0 → Q M) ∧ (¬ v1 < 0 → ((v1 < (10 : Int32) → ib (b + 1) v1 ∧ (fun M2 : MM => ib (b + 2) v1 ∧ (fun M3 : MM => ib (b + 3) v1 ∧ (fun M4 : MM => ib (b + 4) v1 ∧ (fun M5 : MM => (fun M6 : MM => (fun M7 : MM => Q M7) (up M6 b 4 ((M6 b 4) + (1 : Int32)))) (up M5 b 5 ((M5 b 5) ||| ((1 : Int32) <<< (v1 &&& 31))))) (up M4 (b + 4) (ix v1) (0 : Int32))) (up M3 (b + 3) (ix v1) x3)) (up M2 (b + 2) (ix v1) x2)) (up M (b + 1) (ix v1) x1)) ∧ (¬ v1 < (10 : Int32) → Q M))))) (M b 4)
set_option maxHeartbeats 4000000 in
set_option maxRecDepth 100000 in
theorem s0_builds {G : GG} {b : Nat} (hb : ob b 0) {x1 : Int32} {x2 : Int32} {x3 : Int32} {M : MM} {Q : MM → Prop} (h : D0_builds b x1 x2 x3 M Q) : CM G yX0_builds (WY yX0_builds cX0_builds 5 none) 0 0 [.ref (gA G b), .int x1, .int x2, .int x3] M (qV Q) := by
  refine CM.of (cc := cX0_builds) (nL := 5) (ret := none) (own := RX0) (by decide +kernel) rfl rfl (Nat.le_of_ble_eq_true rfl) ?_
  show A0_builds G Q 0 [(0, .ref (gA G b)), (1, .int x1), (2, .int x2), (3, .int x3)] [] M
  unfold D0_builds at h
  refine a_aload_n dX0_builds_0 0 rfl ?_
  refine a_get0 dX0_builds_1 4 (by decide) (tbc _ kF_RX0_24) (fun w h => tbc _ (uW0 w h)) rfl hb rfl ?_
  refine a_istore (i := 4) (L' := [(4, .int _), (0, .ref _), (1, .int _), (2, .int _), (3, .int _)]) dX0_builds_4 (by decide) rfl ?_
  refine a_iload dX0_builds_6 0 rfl ?_
  refine a_if_lt (tgt := 18) dX0_builds_8 (by decide) (fun c => ?_) (fun c => ?_)
  · have h := h.1 c
    exact a_vret dX0_builds_18 ⟨rfl, h⟩
  · have h := h.2 c
    refine a_iload dX0_builds_11 0 rfl ?_
    refine a_bipush (v := 10) dX0_builds_13 (by decide) ?_
    refine a_icmp_lt (tgt := 19) dX0_builds_15 (by decide) (fun c => ?_) (fun c => ?_)
    · have h := h.1 c
      refine a_aload_n dX0_builds_19 1 rfl ?_
      refine a_get0 dX0_builds_20 0 (by decide) (tbc _ kF_RX0_11) (fun w h => tbc _ (uW0 w h)) rfl hb rfl ?_
      refine a_iload dX0_builds_23 0 rfl ?_
      refine a_iload_n dX0_builds_25 2 rfl ?_
      refine a_iast dX0_builds_26 h.1 ?_
      have h := h.2
      refine a_aload_n dX0_builds_27 1 rfl ?_
      refine a_get0 dX0_builds_28 1 (by decide) (tbc _ kF_RX0_15) (fun w h => tbc _ (uW0 w h)) rfl hb rfl ?_
      refine a_iload dX0_builds_31 0 rfl ?_
      refine a_iload_n dX0_builds_33 3 rfl ?_
      refine a_iast dX0_builds_34 h.1 ?_
      have h := h.2
      refine a_aload_n dX0_builds_35 1 rfl ?_
      refine a_get0 dX0_builds_36 2 (by decide) (tbc _ kF_RX0_18) (fun w h => tbc _ (uW0 w h)) rfl hb rfl ?_
      refine a_iload dX0_builds_39 0 rfl ?_
      refine a_iload_n dX0_builds_41 4 rfl ?_
      refine a_iast dX0_builds_42 h.1 ?_
      have h := h.2
      refine a_aload_n dX0_builds_43 1 rfl ?_
      refine a_get0 dX0_builds_44 3 (by decide) (tbc _ kF_RX0_21) (fun w h => tbc _ (uW0 w h)) rfl hb rfl ?_
      refine a_iload dX0_builds_47 0 rfl ?_
      refine a_iconst (v := 0) dX0_builds_49 (by decide) ?_
      refine a_iast dX0_builds_50 h.1 ?_
      have h := h.2
      refine a_aload_n dX0_builds_51 1 rfl ?_
      refine a_dup dX0_builds_52 rfl ?_
      refine a_get0 dX0_builds_53 5 (by decide) (tbc _ kF_RX0_28) (fun w h => tbc _ (uW0 w h)) rfl hb rfl ?_
      refine a_iconst (v := 1) dX0_builds_56 (by decide) ?_
      refine a_iload dX0_builds_57 0 rfl ?_
      refine a_ishl dX0_builds_59 ?_
      refine a_ior dX0_builds_60 ?_
      refine a_put0 dX0_builds_61 5 (by decide) (tbc _ kF_RX0_28) (fun w h => tbc _ (uW0 w h)) rfl rfl rfl rfl hb fs0_5 ?_
      refine a_aload_n dX0_builds_64 1 rfl ?_
      refine a_dup dX0_builds_65 rfl ?_
      refine a_get0 dX0_builds_66 4 (by decide) (tbc _ kF_RX0_24) (fun w h => tbc _ (uW0 w h)) rfl hb rfl ?_
      refine a_iconst (v := 1) dX0_builds_69 (by decide) ?_
      refine a_iadd dX0_builds_70 ?_
      refine a_put0 dX0_builds_71 4 (by decide) (tbc _ kF_RX0_24) (fun w h => tbc _ (uW0 w h)) rfl rfl rfl rfl hb fs0_4 ?_
      exact a_vret dX0_builds_74 ⟨rfl, h⟩
    · have h := h.2 c
      exact a_vret dX0_builds_18 ⟨rfl, h⟩

/-! X0_cellOf -/
theorem dX0_cellOf_0 : decode cX0_cellOf 0 = .ok (.aload_n 0, 1) := by decide +kernel
theorem dX0_cellOf_1 : decode cX0_cellOf 1 = .ok (.iload_n 1, 1) := by decide +kernel
theorem dX0_cellOf_2 : decode cX0_cellOf 2 = .ok (.invokevirtual 40, 3) := by decide +kernel
theorem dX0_cellOf_5 : decode cX0_cellOf 5 = .ok (.ifCond .eq 12, 3) := by decide +kernel
theorem dX0_cellOf_8 : decode cX0_cellOf 8 = .ok (.aload_n 0, 1) := by decide +kernel
theorem dX0_cellOf_9 : decode cX0_cellOf 9 = .ok (.getfield 18, 3) := by decide +kernel
theorem dX0_cellOf_12 : decode cX0_cellOf 12 = .ok (.iload_n 1, 1) := by decide +kernel
theorem dX0_cellOf_13 : decode cX0_cellOf 13 = .ok (.iaload, 1) := by decide +kernel
theorem dX0_cellOf_14 : decode cX0_cellOf 14 = .ok (.goto 4, 3) := by decide +kernel
theorem dX0_cellOf_17 : decode cX0_cellOf 17 = .ok (.iconst 0, 1) := by decide +kernel
theorem dX0_cellOf_18 : decode cX0_cellOf 18 = .ok (.ireturn, 1) := by decide +kernel
abbrev A0_cellOf (G : GG) (Q : Int32 → MM → Prop) := AW G E0 (MZ G (qI Q)) (WY yX0_cellOf cX0_cellOf 2 (some .int)) RX0 cX0_cellOf 2 (some .int) ({ frames := 1, cells := 0, slots := 0, locals := 21 } : Room) 0 0
def D0_cellOf (b : Nat) (x1 : Int32) (M : MM) (Q : Int32 → MM → Prop) : Prop := D0_knows b x1 M (fun (r1 : Int32) (M2 : MM) => ((r1 = 0 → Q (0 : Int32) M2) ∧ (¬ r1 = 0 → ib (b + 3) x1 ∧ Q (M2 (b + 3) (ix x1)) M2)))
set_option maxHeartbeats 4000000 in
set_option maxRecDepth 100000 in
theorem s0_cellOf {G : GG} {b : Nat} (hb : ob b 0) {x1 : Int32} {M : MM} {Q : Int32 → MM → Prop} (h : D0_cellOf b x1 M Q) : CM G yX0_cellOf (WY yX0_cellOf cX0_cellOf 2 (some .int)) 1 21 [.ref (gA G b), .int x1] M (qI Q) := by
  refine CM.of (cc := cX0_cellOf) (nL := 2) (ret := (some .int)) (own := RX0) (by decide +kernel) rfl rfl (Nat.le_of_ble_eq_true rfl) ?_
  show A0_cellOf G Q 0 [(0, .ref (gA G b)), (1, .int x1)] [] M
  unfold D0_cellOf at h
  refine a_aload_n dX0_cellOf_0 0 rfl ?_
  refine a_iload_n dX0_cellOf_1 1 rfl ?_
  refine a_callVi (n := 1) [.int _] (C := RX0) (ci := 0) (qc := (RX0, TX0, 9)) (fsF := fl0 G _) hb.1 (fun _ => en0 hb.2) rfl rfl dX0_cellOf_2 (s0_knows hb h) (gV tbc kM_RX0_40_X0_knows kI_X0_knows kS_X0_knows kN_RX0 kC_X0_knows) rfl (by decide +kernel) ⟨Nat.le_of_ble_eq_true rfl, Nat.le_of_ble_eq_true rfl⟩ rfl rfl (Nat.le_of_ble_eq_true rfl) ⟨Nat.le_refl 0, Nat.le_refl 0⟩ (fun r M h => ?_)
  refine a_if_eq (tgt := 17) dX0_cellOf_5 (by decide) (fun c => ?_) (fun c => ?_)
  · have h := h.1 c
    refine a_iconst (v := 0) dX0_cellOf_17 (by decide) ?_
    exact a_iret dX0_cellOf_18 ⟨_, rfl, h⟩
  · have h := h.2 c
    refine a_aload_n dX0_cellOf_8 0 rfl ?_
    refine a_get0 dX0_cellOf_9 2 (by decide) (tbc _ kF_RX0_18) (fun w h => tbc _ (uW0 w h)) rfl hb rfl ?_
    refine a_iload_n dX0_cellOf_12 1 rfl ?_
    refine a_iald dX0_cellOf_13 h.1 ?_
    have h := h.2
    refine a_goto (tgt := 18) dX0_cellOf_14 (by decide) ?_
    exact a_iret dX0_cellOf_18 ⟨_, rfl, h⟩

/-! X0_rateOf -/
theorem dX0_rateOf_0 : decode cX0_rateOf 0 = .ok (.aload_n 0, 1) := by decide +kernel
theorem dX0_rateOf_1 : decode cX0_rateOf 1 = .ok (.iload_n 1, 1) := by decide +kernel
theorem dX0_rateOf_2 : decode cX0_rateOf 2 = .ok (.invokevirtual 44, 3) := by decide +kernel
theorem dX0_rateOf_5 : decode cX0_rateOf 5 = .ok (.aload_n 0, 1) := by decide +kernel
theorem dX0_rateOf_6 : decode cX0_rateOf 6 = .ok (.iload_n 1, 1) := by decide +kernel
theorem dX0_rateOf_7 : decode cX0_rateOf 7 = .ok (.invokevirtual 48, 3) := by decide +kernel
theorem dX0_rateOf_10 : decode cX0_rateOf 10 = .ok (.invokestatic 57, 3) := by decide +kernel
theorem dX0_rateOf_13 : decode cX0_rateOf 13 = .ok (.ireturn, 1) := by decide +kernel
abbrev A0_rateOf (G : GG) (Q : Int32 → MM → Prop) := AW G E0 (MZ G (qI Q)) (WY yX0_rateOf cX0_rateOf 2 (some .int)) RX0 cX0_rateOf 2 (some .int) ({ frames := 2, cells := 0, slots := 0, locals := 42 } : Room) 0 0
def D0_rateOf (b : Nat) (x1 : Int32) (M : MM) (Q : Int32 → MM → Prop) : Prop := D0_kindOf b x1 M (fun (r1 : Int32) (M2 : MM) => D0_figureOf b x1 M2 (fun (r3 : Int32) (M4 : MM) => D1_rateFor r1 r3 M4 (fun (r5 : Int32) (M6 : MM) => Q r5 M6)))
set_option maxHeartbeats 4000000 in
set_option maxRecDepth 100000 in
theorem s0_rateOf {G : GG} {b : Nat} (hb : ob b 0) {x1 : Int32} {M : MM} {Q : Int32 → MM → Prop} (h : D0_rateOf b x1 M Q) : CM G yX0_rateOf (WY yX0_rateOf cX0_rateOf 2 (some .int)) 2 42 [.ref (gA G b), .int x1] M (qI Q) := by
  refine CM.of (cc := cX0_rateOf) (nL := 2) (ret := (some .int)) (own := RX0) (by decide +kernel) rfl rfl (Nat.le_of_ble_eq_true rfl) ?_
  show A0_rateOf G Q 0 [(0, .ref (gA G b)), (1, .int x1)] [] M
  unfold D0_rateOf at h
  refine a_aload_n dX0_rateOf_0 0 rfl ?_
  refine a_iload_n dX0_rateOf_1 1 rfl ?_
  refine a_callVi (n := 1) [.int _] (C := RX0) (ci := 0) (qc := (RX0, TX0, 9)) (fsF := fl0 G _) hb.1 (fun _ => en0 hb.2) rfl rfl dX0_rateOf_2 (s0_kindOf hb h) (gV tbc kM_RX0_44_X0_kindOf kI_X0_kindOf kS_X0_kindOf kN_RX0 kC_X0_kindOf) rfl (by decide +kernel) ⟨Nat.le_of_ble_eq_true rfl, Nat.le_of_ble_eq_true rfl⟩ rfl rfl (Nat.le_of_ble_eq_true rfl) ⟨Nat.le_refl 0, Nat.le_refl 0⟩ (fun r M h => ?_)
  refine a_aload_n dX0_rateOf_5 0 rfl ?_
  refine a_iload_n dX0_rateOf_6 1 rfl ?_
  refine a_callVi (n := 1) [.int _] (C := RX0) (ci := 0) (qc := (RX0, TX0, 9)) (fsF := fl0 G _) hb.1 (fun _ => en0 hb.2) rfl rfl dX0_rateOf_7 (s0_figureOf hb h) (gV tbc kM_RX0_48_X0_figureOf kI_X0_figureOf kS_X0_figureOf kN_RX0 kC_X0_figureOf) rfl (by decide +kernel) ⟨Nat.le_of_ble_eq_true rfl, Nat.le_of_ble_eq_true rfl⟩ rfl rfl (Nat.le_of_ble_eq_true rfl) ⟨Nat.le_refl 0, Nat.le_refl 0⟩ (fun r M h => ?_)
  refine a_callSi (n := 2) [.int _, .int _] dX0_rateOf_10 (s1_rateFor h) (gS tbc kM_RX0_57_X1_rateFor kT_X1_rateFor kN_RX1 kC_X1_rateFor) rfl (by decide +kernel) ⟨Nat.le_of_ble_eq_true rfl, Nat.le_of_ble_eq_true rfl⟩ rfl rfl (Nat.le_of_ble_eq_true rfl) ⟨Nat.le_refl 0, Nat.le_refl 0⟩ (fun r M h => ?_)
  exact a_iret dX0_rateOf_13 ⟨_, rfl, h⟩

/-! X0_dearest -/
theorem dX0_dearest_0 : decode cX0_dearest 0 = .ok (.bipush (-9), 2) := by decide +kernel
theorem dX0_dearest_2 : decode cX0_dearest 2 = .ok (.istore_n 1, 1) := by decide +kernel
theorem dX0_dearest_3 : decode cX0_dearest 3 = .ok (.iconst 0, 1) := by decide +kernel
theorem dX0_dearest_4 : decode cX0_dearest 4 = .ok (.istore_n 2, 1) := by decide +kernel
theorem dX0_dearest_5 : decode cX0_dearest 5 = .ok (.iload_n 2, 1) := by decide +kernel
theorem dX0_dearest_6 : decode cX0_dearest 6 = .ok (.bipush 10, 2) := by decide +kernel
theorem dX0_dearest_8 : decode cX0_dearest 8 = .ok (.if_icmp .ge 36, 3) := by decide +kernel
theorem dX0_dearest_11 : decode cX0_dearest 11 = .ok (.aload_n 0, 1) := by decide +kernel
theorem dX0_dearest_12 : decode cX0_dearest 12 = .ok (.iload_n 2, 1) := by decide +kernel
theorem dX0_dearest_13 : decode cX0_dearest 13 = .ok (.invokevirtual 60, 3) := by decide +kernel
theorem dX0_dearest_16 : decode cX0_dearest 16 = .ok (.ifCond .eq 22, 3) := by decide +kernel
theorem dX0_dearest_19 : decode cX0_dearest 19 = .ok (.iload_n 1, 1) := by decide +kernel
theorem dX0_dearest_20 : decode cX0_dearest 20 = .ok (.ifCond .lt 16, 3) := by decide +kernel
theorem dX0_dearest_23 : decode cX0_dearest 23 = .ok (.aload_n 0, 1) := by decide +kernel
theorem dX0_dearest_24 : decode cX0_dearest 24 = .ok (.iload_n 2, 1) := by decide +kernel
theorem dX0_dearest_25 : decode cX0_dearest 25 = .ok (.invokevirtual 105, 3) := by decide +kernel
theorem dX0_dearest_28 : decode cX0_dearest 28 = .ok (.aload_n 0, 1) := by decide +kernel
theorem dX0_dearest_29 : decode cX0_dearest 29 = .ok (.iload_n 1, 1) := by decide +kernel
theorem dX0_dearest_30 : decode cX0_dearest 30 = .ok (.invokevirtual 105, 3) := by decide +kernel
theorem dX0_dearest_33 : decode cX0_dearest 33 = .ok (.if_icmp .le 5, 3) := by decide +kernel
theorem dX0_dearest_36 : decode cX0_dearest 36 = .ok (.iload_n 2, 1) := by decide +kernel
theorem dX0_dearest_37 : decode cX0_dearest 37 = .ok (.istore_n 1, 1) := by decide +kernel
theorem dX0_dearest_38 : decode cX0_dearest 38 = .ok (.iinc 2 1, 3) := by decide +kernel
theorem dX0_dearest_41 : decode cX0_dearest 41 = .ok (.goto (-36), 3) := by decide +kernel
theorem dX0_dearest_44 : decode cX0_dearest 44 = .ok (.iload_n 1, 1) := by decide +kernel
theorem dX0_dearest_45 : decode cX0_dearest 45 = .ok (.ireturn, 1) := by decide +kernel
abbrev A0_dearest (G : GG) (Q : Int32 → MM → Prop) := AW G E0 (MZ G (qI Q)) (WY yX0_dearest cX0_dearest 3 (some .int)) RX0 cX0_dearest 3 (some .int) ({ frames := 3, cells := 0, slots := 0, locals := 63 } : Room) 0 0
def D0_dearest_c38 (b : Nat) (K5 : Int32 → Int32 → MM → Prop) (Q : Int32 → MM → Prop) (x1 : Int32) (x2 : Int32) (M : MM) : Prop := (fun v7 : Int32 => K5 x1 v7 M) (x2 + (1 : Int32))
def D0_dearest_c36 (b : Nat) (K5 : Int32 → Int32 → MM → Prop) (Q : Int32 → MM → Prop) (x2 : Int32) (M : MM) : Prop := D0_dearest_c38 b K5 Q x2 x2 M
def D0_dearest_c5 (b : Nat) (Q : Int32 → MM → Prop) : Nat → Int32 → Int32 → MM → Prop
  | 0, _, _, _ => False
  | n + 1, x1, x2, M => (((10 : Int32) ≤ x2 → Q x1 M) ∧ (¬ (10 : Int32) ≤ x2 → D0_stands b x2 M (fun (r1 : Int32) (M2 : MM) => ((r1 = 0 → D0_dearest_c38 b (D0_dearest_c5 b Q n) Q x1 x2 M2) ∧ (¬ r1 = 0 → ((x1 < 0 → D0_dearest_c36 b (D0_dearest_c5 b Q n) Q x2 M2) ∧ (¬ x1 < 0 → D0_rateOf b x2 M2 (fun (r3 : Int32) (M4 : MM) => D0_rateOf b x1 M4 (fun (r5 : Int32) (M6 : MM) => ((r3 ≤ r5 → D0_dearest_c38 b (D0_dearest_c5 b Q n) Q x1 x2 M6) ∧ (¬ r3 ≤ r5 → D0_dearest_c36 b (D0_dearest_c5 b Q n) Q x2 M6)))))))))))
def D0_dearest (b : Nat) (M : MM) (Q : Int32 → MM → Prop) : Prop := D0_dearest_c5 b Q FU (-9 : Int32) (0 : Int32) M
set_option maxHeartbeats 4000000 in
set_option maxRecDepth 100000 in
theorem s0_dearest_c38 {G : GG} {b : Nat} (hb : ob b 0) {K5 : Int32 → Int32 → MM → Prop} {Q : Int32 → MM → Prop} (hK5 : ∀ (x1 : Int32) (x2 : Int32) (M : MM), K5 x1 x2 M → A0_dearest G Q 5 [(0, .ref (gA G b)), (1, .int x1), (2, .int x2)] [] M) : ∀ (x1 : Int32) (x2 : Int32) (M : MM), D0_dearest_c38 b K5 Q x1 x2 M → A0_dearest G Q 38 [(0, .ref (gA G b)), (1, .int x1), (2, .int x2)] [] M := by
  intro x1 x2 M h
  unfold D0_dearest_c38 at h
  refine a_iinc (L' := [(2, .int _), (0, .ref _), (1, .int _)]) dX0_dearest_38 2 rfl (show _ + Int32.ofInt (1 : Int) = _ + (1 : Int32) from rfl) (by decide) rfl ?_
  refine a_goto (tgt := 5) dX0_dearest_41 (by decide) ?_
  refine a_sub [1, 2, 0] rfl ?_
  exact hK5 _ _ _ h
set_option maxHeartbeats 4000000 in
set_option maxRecDepth 100000 in
theorem s0_dearest_c36 {G : GG} {b : Nat} (hb : ob b 0) {K5 : Int32 → Int32 → MM → Prop} {Q : Int32 → MM → Prop} (hK5 : ∀ (x1 : Int32) (x2 : Int32) (M : MM), K5 x1 x2 M → A0_dearest G Q 5 [(0, .ref (gA G b)), (1, .int x1), (2, .int x2)] [] M) : ∀ (x2 : Int32) (M : MM), D0_dearest_c36 b K5 Q x2 M → A0_dearest G Q 36 [(0, .ref (gA G b)), (2, .int x2)] [] M := by
  intro x2 M h
  unfold D0_dearest_c36 at h
  refine a_iload_n dX0_dearest_36 1 rfl ?_
  refine a_istore_n (i := 1) (L' := [(1, .int _), (0, .ref _), (2, .int _)]) dX0_dearest_37 rfl (by decide) rfl ?_
  refine a_sub [1, 0, 2] rfl ?_
  exact s0_dearest_c38 hb hK5 _ _ _ h
set_option maxHeartbeats 4000000 in
set_option maxRecDepth 100000 in
theorem s0_dearest_c5 {G : GG} {b : Nat} (hb : ob b 0) {Q : Int32 → MM → Prop} : ∀ (n : Nat) (x1 : Int32) (x2 : Int32) (M : MM), D0_dearest_c5 b Q n x1 x2 M → A0_dearest G Q 5 [(0, .ref (gA G b)), (1, .int x1), (2, .int x2)] [] M := by
  intro n
  induction n with
  | zero => intro x1 x2 M h; exact h.elim
  | succ n ih =>
    intro x1 x2 M h
    unfold D0_dearest_c5 at h
    refine a_iload_n dX0_dearest_5 2 rfl ?_
    refine a_bipush (v := 10) dX0_dearest_6 (by decide) ?_
    refine a_icmp_ge (tgt := 44) dX0_dearest_8 (by decide) (fun c => ?_) (fun c => ?_)
    · have h := h.1 c
      refine a_iload_n dX0_dearest_44 1 rfl ?_
      exact a_iret dX0_dearest_45 ⟨_, rfl, h⟩
    · have h := h.2 c
      refine a_aload_n dX0_dearest_11 0 rfl ?_
      refine a_iload_n dX0_dearest_12 2 rfl ?_
      refine a_callVi (n := 1) [.int _] (C := RX0) (ci := 0) (qc := (RX0, TX0, 9)) (fsF := fl0 G _) hb.1 (fun _ => en0 hb.2) rfl rfl dX0_dearest_13 (s0_stands hb h) (gV tbc kM_RX0_60_X0_stands kI_X0_stands kS_X0_stands kN_RX0 kC_X0_stands) rfl (by decide +kernel) ⟨Nat.le_of_ble_eq_true rfl, Nat.le_of_ble_eq_true rfl⟩ rfl rfl (Nat.le_of_ble_eq_true rfl) ⟨Nat.le_refl 0, Nat.le_refl 0⟩ (fun r M h => ?_)
      refine a_if_eq (tgt := 38) dX0_dearest_16 (by decide) (fun c => ?_) (fun c => ?_)
      · have h := h.1 c
        refine a_sub [0, 1, 2] rfl ?_
        exact s0_dearest_c38 hb ih _ _ _ h
      · have h := h.2 c
        refine a_iload_n dX0_dearest_19 1 rfl ?_
        refine a_if_lt (tgt := 36) dX0_dearest_20 (by decide) (fun c => ?_) (fun c => ?_)
        · have h := h.1 c
          refine a_sub [0, 2] rfl ?_
          exact s0_dearest_c36 hb ih _ _ h
        · have h := h.2 c
          refine a_aload_n dX0_dearest_23 0 rfl ?_
          refine a_iload_n dX0_dearest_24 2 rfl ?_
          refine a_callVi (n := 1) [.int _] (C := RX0) (ci := 0) (qc := (RX0, TX0, 9)) (fsF := fl0 G _) hb.1 (fun _ => en0 hb.2) rfl rfl dX0_dearest_25 (s0_rateOf hb h) (gV tbc kM_RX0_105_X0_rateOf kI_X0_rateOf kS_X0_rateOf kN_RX0 kC_X0_rateOf) rfl (by decide +kernel) ⟨Nat.le_of_ble_eq_true rfl, Nat.le_of_ble_eq_true rfl⟩ rfl rfl (Nat.le_of_ble_eq_true rfl) ⟨Nat.le_refl 0, Nat.le_refl 0⟩ (fun r M h => ?_)
          refine a_aload_n dX0_dearest_28 0 rfl ?_
          refine a_iload_n dX0_dearest_29 1 rfl ?_
          refine a_callVi (n := 1) [.int _] (C := RX0) (ci := 0) (qc := (RX0, TX0, 9)) (fsF := fl0 G _) hb.1 (fun _ => en0 hb.2) rfl rfl dX0_dearest_30 (s0_rateOf hb h) (gV tbc kM_RX0_105_X0_rateOf kI_X0_rateOf kS_X0_rateOf kN_RX0 kC_X0_rateOf) rfl (by decide +kernel) ⟨Nat.le_of_ble_eq_true rfl, Nat.le_of_ble_eq_true rfl⟩ rfl rfl (Nat.le_of_ble_eq_true rfl) ⟨Nat.le_refl 0, Nat.le_refl 0⟩ (fun r M h => ?_)
          refine a_icmp_le (tgt := 38) dX0_dearest_33 (by decide) (fun c => ?_) (fun c => ?_)
          · have h := h.1 c
            refine a_sub [0, 1, 2] rfl ?_
            exact s0_dearest_c38 hb ih _ _ _ h
          · have h := h.2 c
            refine a_sub [0, 2] rfl ?_
            exact s0_dearest_c36 hb ih _ _ h
set_option maxHeartbeats 4000000 in
set_option maxRecDepth 100000 in
theorem s0_dearest {G : GG} {b : Nat} (hb : ob b 0) {M : MM} {Q : Int32 → MM → Prop} (h : D0_dearest b M Q) : CM G yX0_dearest (WY yX0_dearest cX0_dearest 3 (some .int)) 3 63 [.ref (gA G b)] M (qI Q) := by
  refine CM.of (cc := cX0_dearest) (nL := 3) (ret := (some .int)) (own := RX0) (by decide +kernel) rfl rfl (Nat.le_of_ble_eq_true rfl) ?_
  show A0_dearest G Q 0 [(0, .ref (gA G b))] [] M
  unfold D0_dearest at h
  refine a_bipush (v := -9) dX0_dearest_0 (by decide) ?_
  refine a_istore_n (i := 1) (L' := [(1, .int _), (0, .ref _)]) dX0_dearest_2 rfl (by decide) rfl ?_
  refine a_iconst (v := 0) dX0_dearest_3 (by decide) ?_
  refine a_istore_n (i := 2) (L' := [(2, .int _), (1, .int _), (0, .ref _)]) dX0_dearest_4 rfl (by decide) rfl ?_
  refine a_sub [2, 1, 0] rfl ?_
  exact s0_dearest_c5 hb _ _ _ _ h

/-! X0_dryWorks -/
theorem dX0_dryWorks_0 : decode cX0_dryWorks 0 = .ok (.iconst 0, 1) := by decide +kernel
theorem dX0_dryWorks_1 : decode cX0_dryWorks 1 = .ok (.istore_n 2, 1) := by decide +kernel
theorem dX0_dryWorks_2 : decode cX0_dryWorks 2 = .ok (.iconst 0, 1) := by decide +kernel
theorem dX0_dryWorks_3 : decode cX0_dryWorks 3 = .ok (.istore_n 3, 1) := by decide +kernel
theorem dX0_dryWorks_4 : decode cX0_dryWorks 4 = .ok (.iload_n 3, 1) := by decide +kernel
theorem dX0_dryWorks_5 : decode cX0_dryWorks 5 = .ok (.bipush 10, 2) := by decide +kernel
theorem dX0_dryWorks_7 : decode cX0_dryWorks 7 = .ok (.if_icmp .ge 36, 3) := by decide +kernel
theorem dX0_dryWorks_10 : decode cX0_dryWorks 10 = .ok (.aload_n 0, 1) := by decide +kernel
theorem dX0_dryWorks_11 : decode cX0_dryWorks 11 = .ok (.iload_n 3, 1) := by decide +kernel
theorem dX0_dryWorks_12 : decode cX0_dryWorks 12 = .ok (.invokevirtual 60, 3) := by decide +kernel
theorem dX0_dryWorks_15 : decode cX0_dryWorks 15 = .ok (.ifCond .eq 22, 3) := by decide +kernel
theorem dX0_dryWorks_18 : decode cX0_dryWorks 18 = .ok (.iload_n 1, 1) := by decide +kernel
theorem dX0_dryWorks_19 : decode cX0_dryWorks 19 = .ok (.aload_n 0, 1) := by decide +kernel
theorem dX0_dryWorks_20 : decode cX0_dryWorks 20 = .ok (.getfield 18, 3) := by decide +kernel
theorem dX0_dryWorks_23 : decode cX0_dryWorks 23 = .ok (.iload_n 3, 1) := by decide +kernel
theorem dX0_dryWorks_24 : decode cX0_dryWorks 24 = .ok (.iaload, 1) := by decide +kernel
theorem dX0_dryWorks_25 : decode cX0_dryWorks 25 = .ok (.invokestatic 86, 3) := by decide +kernel
theorem dX0_dryWorks_28 : decode cX0_dryWorks 28 = .ok (.ifCond .ne 9, 3) := by decide +kernel
theorem dX0_dryWorks_31 : decode cX0_dryWorks 31 = .ok (.iload_n 2, 1) := by decide +kernel
theorem dX0_dryWorks_32 : decode cX0_dryWorks 32 = .ok (.iconst 1, 1) := by decide +kernel
theorem dX0_dryWorks_33 : decode cX0_dryWorks 33 = .ok (.iload_n 3, 1) := by decide +kernel
theorem dX0_dryWorks_34 : decode cX0_dryWorks 34 = .ok (.ishl, 1) := by decide +kernel
theorem dX0_dryWorks_35 : decode cX0_dryWorks 35 = .ok (.ior, 1) := by decide +kernel
theorem dX0_dryWorks_36 : decode cX0_dryWorks 36 = .ok (.istore_n 2, 1) := by decide +kernel
theorem dX0_dryWorks_37 : decode cX0_dryWorks 37 = .ok (.iinc 3 1, 3) := by decide +kernel
theorem dX0_dryWorks_40 : decode cX0_dryWorks 40 = .ok (.goto (-36), 3) := by decide +kernel
theorem dX0_dryWorks_43 : decode cX0_dryWorks 43 = .ok (.iload_n 2, 1) := by decide +kernel
theorem dX0_dryWorks_44 : decode cX0_dryWorks 44 = .ok (.ireturn, 1) := by decide +kernel
abbrev A0_dryWorks (G : GG) (Q : Int32 → MM → Prop) := AW G E0 (MZ G (qI Q)) (WY yX0_dryWorks cX0_dryWorks 4 (some .int)) RX0 cX0_dryWorks 4 (some .int) ({ frames := 1, cells := 0, slots := 0, locals := 21 } : Room) 0 0
def D0_dryWorks_c37 (b : Nat) (K4 : Int32 → Int32 → Int32 → MM → Prop) (Q : Int32 → MM → Prop) (x1 : Int32) (x2 : Int32) (x3 : Int32) (M : MM) : Prop := (fun v6 : Int32 => K4 x1 x2 v6 M) (x3 + (1 : Int32))
def D0_dryWorks_c4 (b : Nat) (Q : Int32 → MM → Prop) : Nat → Int32 → Int32 → Int32 → MM → Prop
  | 0, _, _, _, _ => False
  | n + 1, x1, x2, x3, M => (((10 : Int32) ≤ x3 → Q x2 M) ∧ (¬ (10 : Int32) ≤ x3 → D0_stands b x3 M (fun (r1 : Int32) (M2 : MM) => ((r1 = 0 → D0_dryWorks_c37 b (D0_dryWorks_c4 b Q n) Q x1 x2 x3 M2) ∧ (¬ r1 = 0 → ib (b + 3) x3 ∧ D3_has x1 (M2 (b + 3) (ix x3)) M2 (fun (r3 : Int32) (M4 : MM) => ((r3 ≠ 0 → D0_dryWorks_c37 b (D0_dryWorks_c4 b Q n) Q x1 x2 x3 M4) ∧ (r3 = 0 → (fun v5 : Int32 => D0_dryWorks_c37 b (D0_dryWorks_c4 b Q n) Q x1 v5 x3 M4) (x2 ||| ((1 : Int32) <<< (x3 &&& 31)))))))))))
def D0_dryWorks (b : Nat) (x1 : Int32) (M : MM) (Q : Int32 → MM → Prop) : Prop := D0_dryWorks_c4 b Q FU x1 (0 : Int32) (0 : Int32) M
set_option maxHeartbeats 4000000 in
set_option maxRecDepth 100000 in
theorem s0_dryWorks_c37 {G : GG} {b : Nat} (hb : ob b 0) {K4 : Int32 → Int32 → Int32 → MM → Prop} {Q : Int32 → MM → Prop} (hK4 : ∀ (x1 : Int32) (x2 : Int32) (x3 : Int32) (M : MM), K4 x1 x2 x3 M → A0_dryWorks G Q 4 [(0, .ref (gA G b)), (1, .int x1), (2, .int x2), (3, .int x3)] [] M) : ∀ (x1 : Int32) (x2 : Int32) (x3 : Int32) (M : MM), D0_dryWorks_c37 b K4 Q x1 x2 x3 M → A0_dryWorks G Q 37 [(0, .ref (gA G b)), (1, .int x1), (2, .int x2), (3, .int x3)] [] M := by
  intro x1 x2 x3 M h
  unfold D0_dryWorks_c37 at h
  refine a_iinc (L' := [(3, .int _), (0, .ref _), (1, .int _), (2, .int _)]) dX0_dryWorks_37 3 rfl (show _ + Int32.ofInt (1 : Int) = _ + (1 : Int32) from rfl) (by decide) rfl ?_
  refine a_goto (tgt := 4) dX0_dryWorks_40 (by decide) ?_
  refine a_sub [1, 2, 3, 0] rfl ?_
  exact hK4 _ _ _ _ h
set_option maxHeartbeats 4000000 in
set_option maxRecDepth 100000 in
theorem s0_dryWorks_c4 {G : GG} {b : Nat} (hb : ob b 0) {Q : Int32 → MM → Prop} : ∀ (n : Nat) (x1 : Int32) (x2 : Int32) (x3 : Int32) (M : MM), D0_dryWorks_c4 b Q n x1 x2 x3 M → A0_dryWorks G Q 4 [(0, .ref (gA G b)), (1, .int x1), (2, .int x2), (3, .int x3)] [] M := by
  intro n
  induction n with
  | zero => intro x1 x2 x3 M h; exact h.elim
  | succ n ih =>
    intro x1 x2 x3 M h
    unfold D0_dryWorks_c4 at h
    refine a_iload_n dX0_dryWorks_4 3 rfl ?_
    refine a_bipush (v := 10) dX0_dryWorks_5 (by decide) ?_
    refine a_icmp_ge (tgt := 43) dX0_dryWorks_7 (by decide) (fun c => ?_) (fun c => ?_)
    · have h := h.1 c
      refine a_iload_n dX0_dryWorks_43 2 rfl ?_
      exact a_iret dX0_dryWorks_44 ⟨_, rfl, h⟩
    · have h := h.2 c
      refine a_aload_n dX0_dryWorks_10 0 rfl ?_
      refine a_iload_n dX0_dryWorks_11 3 rfl ?_
      refine a_callVi (n := 1) [.int _] (C := RX0) (ci := 0) (qc := (RX0, TX0, 9)) (fsF := fl0 G _) hb.1 (fun _ => en0 hb.2) rfl rfl dX0_dryWorks_12 (s0_stands hb h) (gV tbc kM_RX0_60_X0_stands kI_X0_stands kS_X0_stands kN_RX0 kC_X0_stands) rfl (by decide +kernel) ⟨Nat.le_of_ble_eq_true rfl, Nat.le_of_ble_eq_true rfl⟩ rfl rfl (Nat.le_of_ble_eq_true rfl) ⟨Nat.le_refl 0, Nat.le_refl 0⟩ (fun r M h => ?_)
      refine a_if_eq (tgt := 37) dX0_dryWorks_15 (by decide) (fun c => ?_) (fun c => ?_)
      · have h := h.1 c
        refine a_sub [0, 1, 2, 3] rfl ?_
        exact s0_dryWorks_c37 hb ih _ _ _ _ h
      · have h := h.2 c
        refine a_iload_n dX0_dryWorks_18 1 rfl ?_
        refine a_aload_n dX0_dryWorks_19 0 rfl ?_
        refine a_get0 dX0_dryWorks_20 2 (by decide) (tbc _ kF_RX0_18) (fun w h => tbc _ (uW0 w h)) rfl hb rfl ?_
        refine a_iload_n dX0_dryWorks_23 3 rfl ?_
        refine a_iald dX0_dryWorks_24 h.1 ?_
        have h := h.2
        refine a_callSi (n := 2) [.int _, .int _] dX0_dryWorks_25 (s3_has h) (gS tbc kM_RX0_86_X3_has kT_X3_has kN_RX3 kC_X3_has) rfl (by decide +kernel) ⟨Nat.le_of_ble_eq_true rfl, Nat.le_of_ble_eq_true rfl⟩ rfl rfl (Nat.le_of_ble_eq_true rfl) ⟨Nat.le_refl 0, Nat.le_refl 0⟩ (fun r M h => ?_)
        refine a_if_ne (tgt := 37) dX0_dryWorks_28 (by decide) (fun c => ?_) (fun c => ?_)
        · have h := h.1 c
          refine a_sub [0, 1, 2, 3] rfl ?_
          exact s0_dryWorks_c37 hb ih _ _ _ _ h
        · have h := h.2 c
          refine a_iload_n dX0_dryWorks_31 2 rfl ?_
          refine a_iconst (v := 1) dX0_dryWorks_32 (by decide) ?_
          refine a_iload_n dX0_dryWorks_33 3 rfl ?_
          refine a_ishl dX0_dryWorks_34 ?_
          refine a_ior dX0_dryWorks_35 ?_
          refine a_istore_n (i := 2) (L' := [(2, .int _), (0, .ref _), (1, .int _), (3, .int _)]) dX0_dryWorks_36 rfl (by decide) rfl ?_
          refine a_sub [1, 2, 0, 3] rfl ?_
          exact s0_dryWorks_c37 hb ih _ _ _ _ h
set_option maxHeartbeats 4000000 in
set_option maxRecDepth 100000 in
theorem s0_dryWorks {G : GG} {b : Nat} (hb : ob b 0) {x1 : Int32} {M : MM} {Q : Int32 → MM → Prop} (h : D0_dryWorks b x1 M Q) : CM G yX0_dryWorks (WY yX0_dryWorks cX0_dryWorks 4 (some .int)) 1 21 [.ref (gA G b), .int x1] M (qI Q) := by
  refine CM.of (cc := cX0_dryWorks) (nL := 4) (ret := (some .int)) (own := RX0) (by decide +kernel) rfl rfl (Nat.le_of_ble_eq_true rfl) ?_
  show A0_dryWorks G Q 0 [(0, .ref (gA G b)), (1, .int x1)] [] M
  unfold D0_dryWorks at h
  refine a_iconst (v := 0) dX0_dryWorks_0 (by decide) ?_
  refine a_istore_n (i := 2) (L' := [(2, .int _), (0, .ref _), (1, .int _)]) dX0_dryWorks_1 rfl (by decide) rfl ?_
  refine a_iconst (v := 0) dX0_dryWorks_2 (by decide) ?_
  refine a_istore_n (i := 3) (L' := [(3, .int _), (2, .int _), (0, .ref _), (1, .int _)]) dX0_dryWorks_3 rfl (by decide) rfl ?_
  refine a_sub [2, 3, 1, 0] rfl ?_
  exact s0_dryWorks_c4 hb _ _ _ _ _ h

/-! X0_goesOn -/
theorem dX0_goesOn_0 : decode cX0_goesOn 0 = .ok (.iconst 0, 1) := by decide +kernel
theorem dX0_goesOn_1 : decode cX0_goesOn 1 = .ok (.istore_n 2, 1) := by decide +kernel
theorem dX0_goesOn_2 : decode cX0_goesOn 2 = .ok (.iload_n 2, 1) := by decide +kernel
theorem dX0_goesOn_3 : decode cX0_goesOn 3 = .ok (.iload_n 1, 1) := by decide +kernel
theorem dX0_goesOn_4 : decode cX0_goesOn 4 = .ok (.if_icmp .ge 15, 3) := by decide +kernel
theorem dX0_goesOn_7 : decode cX0_goesOn 7 = .ok (.aload_n 0, 1) := by decide +kernel
theorem dX0_goesOn_8 : decode cX0_goesOn 8 = .ok (.iconst 0, 1) := by decide +kernel
theorem dX0_goesOn_9 : decode cX0_goesOn 9 = .ok (.iconst 0, 1) := by decide +kernel
theorem dX0_goesOn_10 : decode cX0_goesOn 10 = .ok (.invokevirtual 68, 3) := by decide +kernel
theorem dX0_goesOn_13 : decode cX0_goesOn 13 = .ok (.iinc 2 1, 3) := by decide +kernel
theorem dX0_goesOn_16 : decode cX0_goesOn 16 = .ok (.goto (-14), 3) := by decide +kernel
theorem dX0_goesOn_19 : decode cX0_goesOn 19 = .ok (.return_, 1) := by decide +kernel
abbrev A0_goesOn (G : GG) (Q : MM → Prop) := AW G E0 (MZ G (qV Q)) (WY yX0_goesOn cX0_goesOn 3 none) RX0 cX0_goesOn 3 none ({ frames := 3, cells := 0, slots := 0, locals := 72 } : Room) 0 0
def D0_goesOn_c2 (b : Nat) (Q : MM → Prop) : Nat → Int32 → Int32 → MM → Prop
  | 0, _, _, _ => False
  | n + 1, x1, x2, M => ((x1 ≤ x2 → Q M) ∧ (¬ x1 ≤ x2 → D0_anHour b (0 : Int32) (0 : Int32) M (fun (M2 : MM) => (fun v3 : Int32 => D0_goesOn_c2 b Q n x1 v3 M2) (x2 + (1 : Int32)))))
def D0_goesOn (b : Nat) (x1 : Int32) (M : MM) (Q : MM → Prop) : Prop := D0_goesOn_c2 b Q FU x1 (0 : Int32) M
set_option maxHeartbeats 4000000 in
set_option maxRecDepth 100000 in
theorem s0_goesOn_c2 {G : GG} {b : Nat} (hb : ob b 0) {Q : MM → Prop} : ∀ (n : Nat) (x1 : Int32) (x2 : Int32) (M : MM), D0_goesOn_c2 b Q n x1 x2 M → A0_goesOn G Q 2 [(0, .ref (gA G b)), (1, .int x1), (2, .int x2)] [] M := by
  intro n
  induction n with
  | zero => intro x1 x2 M h; exact h.elim
  | succ n ih =>
    intro x1 x2 M h
    unfold D0_goesOn_c2 at h
    refine a_iload_n dX0_goesOn_2 2 rfl ?_
    refine a_iload_n dX0_goesOn_3 1 rfl ?_
    refine a_icmp_ge (tgt := 19) dX0_goesOn_4 (by decide) (fun c => ?_) (fun c => ?_)
    · have h := h.1 c
      exact a_vret dX0_goesOn_19 ⟨rfl, h⟩
    · have h := h.2 c
      refine a_aload_n dX0_goesOn_7 0 rfl ?_
      refine a_iconst (v := 0) dX0_goesOn_8 (by decide) ?_
      refine a_iconst (v := 0) dX0_goesOn_9 (by decide) ?_
      refine a_callVv (n := 2) [.int _, .int _] (C := RX0) (ci := 0) (qc := (RX0, TX0, 9)) (fsF := fl0 G _) hb.1 (fun _ => en0 hb.2) rfl rfl dX0_goesOn_10 (s0_anHour hb h) (gV tbc kM_RX0_68_X0_anHour kI_X0_anHour kS_X0_anHour kN_RX0 kC_X0_anHour) rfl (by decide +kernel) ⟨Nat.le_of_ble_eq_true rfl, Nat.le_of_ble_eq_true rfl⟩ rfl rfl (Nat.le_of_ble_eq_true rfl) ⟨Nat.le_refl 0, Nat.le_refl 0⟩ (fun M h => ?_)
      refine a_iinc (L' := [(2, .int _), (0, .ref _), (1, .int _)]) dX0_goesOn_13 2 rfl (show _ + Int32.ofInt (1 : Int) = _ + (1 : Int32) from rfl) (by decide) rfl ?_
      refine a_goto (tgt := 2) dX0_goesOn_16 (by decide) ?_
      refine a_sub [1, 2, 0] rfl ?_
      exact ih _ _ _ h
set_option maxHeartbeats 4000000 in
set_option maxRecDepth 100000 in
theorem s0_goesOn {G : GG} {b : Nat} (hb : ob b 0) {x1 : Int32} {M : MM} {Q : MM → Prop} (h : D0_goesOn b x1 M Q) : CM G yX0_goesOn (WY yX0_goesOn cX0_goesOn 3 none) 3 72 [.ref (gA G b), .int x1] M (qV Q) := by
  refine CM.of (cc := cX0_goesOn) (nL := 3) (ret := none) (own := RX0) (by decide +kernel) rfl rfl (Nat.le_of_ble_eq_true rfl) ?_
  show A0_goesOn G Q 0 [(0, .ref (gA G b)), (1, .int x1)] [] M
  unfold D0_goesOn at h
  refine a_iconst (v := 0) dX0_goesOn_0 (by decide) ?_
  refine a_istore_n (i := 2) (L' := [(2, .int _), (0, .ref _), (1, .int _)]) dX0_goesOn_1 rfl (by decide) rfl ?_
  refine a_sub [1, 2, 0] rfl ?_
  exact s0_goesOn_c2 hb _ _ _ _ h

/-! X0_highestWork -/
theorem dX0_highestWork_0 : decode cX0_highestWork 0 = .ok (.bipush (-9), 2) := by decide +kernel
theorem dX0_highestWork_2 : decode cX0_highestWork 2 = .ok (.istore_n 1, 1) := by decide +kernel
theorem dX0_highestWork_3 : decode cX0_highestWork 3 = .ok (.iconst 0, 1) := by decide +kernel
theorem dX0_highestWork_4 : decode cX0_highestWork 4 = .ok (.istore_n 2, 1) := by decide +kernel
theorem dX0_highestWork_5 : decode cX0_highestWork 5 = .ok (.iload_n 2, 1) := by decide +kernel
theorem dX0_highestWork_6 : decode cX0_highestWork 6 = .ok (.bipush 10, 2) := by decide +kernel
theorem dX0_highestWork_8 : decode cX0_highestWork 8 = .ok (.if_icmp .ge 40, 3) := by decide +kernel
theorem dX0_highestWork_11 : decode cX0_highestWork 11 = .ok (.aload_n 0, 1) := by decide +kernel
theorem dX0_highestWork_12 : decode cX0_highestWork 12 = .ok (.iload_n 2, 1) := by decide +kernel
theorem dX0_highestWork_13 : decode cX0_highestWork 13 = .ok (.invokevirtual 60, 3) := by decide +kernel
theorem dX0_highestWork_16 : decode cX0_highestWork 16 = .ok (.ifCond .eq 26, 3) := by decide +kernel
theorem dX0_highestWork_19 : decode cX0_highestWork 19 = .ok (.iload_n 1, 1) := by decide +kernel
theorem dX0_highestWork_20 : decode cX0_highestWork 20 = .ok (.ifCond .lt 20, 3) := by decide +kernel
theorem dX0_highestWork_23 : decode cX0_highestWork 23 = .ok (.aload_n 0, 1) := by decide +kernel
theorem dX0_highestWork_24 : decode cX0_highestWork 24 = .ok (.iload_n 2, 1) := by decide +kernel
theorem dX0_highestWork_25 : decode cX0_highestWork 25 = .ok (.invokevirtual 117, 3) := by decide +kernel
theorem dX0_highestWork_28 : decode cX0_highestWork 28 = .ok (.iconst 5, 1) := by decide +kernel
theorem dX0_highestWork_29 : decode cX0_highestWork 29 = .ok (.idiv, 1) := by decide +kernel
theorem dX0_highestWork_30 : decode cX0_highestWork 30 = .ok (.aload_n 0, 1) := by decide +kernel
theorem dX0_highestWork_31 : decode cX0_highestWork 31 = .ok (.iload_n 1, 1) := by decide +kernel
theorem dX0_highestWork_32 : decode cX0_highestWork 32 = .ok (.invokevirtual 117, 3) := by decide +kernel
theorem dX0_highestWork_35 : decode cX0_highestWork 35 = .ok (.iconst 5, 1) := by decide +kernel
theorem dX0_highestWork_36 : decode cX0_highestWork 36 = .ok (.idiv, 1) := by decide +kernel
theorem dX0_highestWork_37 : decode cX0_highestWork 37 = .ok (.if_icmp .ge 5, 3) := by decide +kernel
theorem dX0_highestWork_40 : decode cX0_highestWork 40 = .ok (.iload_n 2, 1) := by decide +kernel
theorem dX0_highestWork_41 : decode cX0_highestWork 41 = .ok (.istore_n 1, 1) := by decide +kernel
theorem dX0_highestWork_42 : decode cX0_highestWork 42 = .ok (.iinc 2 1, 3) := by decide +kernel
theorem dX0_highestWork_45 : decode cX0_highestWork 45 = .ok (.goto (-40), 3) := by decide +kernel
theorem dX0_highestWork_48 : decode cX0_highestWork 48 = .ok (.iload_n 1, 1) := by decide +kernel
theorem dX0_highestWork_49 : decode cX0_highestWork 49 = .ok (.ireturn, 1) := by decide +kernel
abbrev A0_highestWork (G : GG) (Q : Int32 → MM → Prop) := AW G E0 (MZ G (qI Q)) (WY yX0_highestWork cX0_highestWork 3 (some .int)) RX0 cX0_highestWork 3 (some .int) ({ frames := 2, cells := 0, slots := 0, locals := 42 } : Room) 0 0
def D0_highestWork_c42 (b : Nat) (K5 : Int32 → Int32 → MM → Prop) (Q : Int32 → MM → Prop) (x1 : Int32) (x2 : Int32) (M : MM) : Prop := (fun v7 : Int32 => K5 x1 v7 M) (x2 + (1 : Int32))
def D0_highestWork_c40 (b : Nat) (K5 : Int32 → Int32 → MM → Prop) (Q : Int32 → MM → Prop) (x2 : Int32) (M : MM) : Prop := D0_highestWork_c42 b K5 Q x2 x2 M
def D0_highestWork_c5 (b : Nat) (Q : Int32 → MM → Prop) : Nat → Int32 → Int32 → MM → Prop
  | 0, _, _, _ => False
  | n + 1, x1, x2, M => (((10 : Int32) ≤ x2 → Q x1 M) ∧ (¬ (10 : Int32) ≤ x2 → D0_stands b x2 M (fun (r1 : Int32) (M2 : MM) => ((r1 = 0 → D0_highestWork_c42 b (D0_highestWork_c5 b Q n) Q x1 x2 M2) ∧ (¬ r1 = 0 → ((x1 < 0 → D0_highestWork_c40 b (D0_highestWork_c5 b Q n) Q x2 M2) ∧ (¬ x1 < 0 → D0_cellOf b x2 M2 (fun (r3 : Int32) (M4 : MM) => D0_cellOf b x1 M4 (fun (r5 : Int32) (M6 : MM) => (((r5 / (5 : Int32)) ≤ (r3 / (5 : Int32)) → D0_highestWork_c42 b (D0_highestWork_c5 b Q n) Q x1 x2 M6) ∧ (¬ (r5 / (5 : Int32)) ≤ (r3 / (5 : Int32)) → D0_highestWork_c40 b (D0_highestWork_c5 b Q n) Q x2 M6)))))))))))
def D0_highestWork (b : Nat) (M : MM) (Q : Int32 → MM → Prop) : Prop := D0_highestWork_c5 b Q FU (-9 : Int32) (0 : Int32) M
set_option maxHeartbeats 4000000 in
set_option maxRecDepth 100000 in
theorem s0_highestWork_c42 {G : GG} {b : Nat} (hb : ob b 0) {K5 : Int32 → Int32 → MM → Prop} {Q : Int32 → MM → Prop} (hK5 : ∀ (x1 : Int32) (x2 : Int32) (M : MM), K5 x1 x2 M → A0_highestWork G Q 5 [(0, .ref (gA G b)), (1, .int x1), (2, .int x2)] [] M) : ∀ (x1 : Int32) (x2 : Int32) (M : MM), D0_highestWork_c42 b K5 Q x1 x2 M → A0_highestWork G Q 42 [(0, .ref (gA G b)), (1, .int x1), (2, .int x2)] [] M := by
  intro x1 x2 M h
  unfold D0_highestWork_c42 at h
  refine a_iinc (L' := [(2, .int _), (0, .ref _), (1, .int _)]) dX0_highestWork_42 2 rfl (show _ + Int32.ofInt (1 : Int) = _ + (1 : Int32) from rfl) (by decide) rfl ?_
  refine a_goto (tgt := 5) dX0_highestWork_45 (by decide) ?_
  refine a_sub [1, 2, 0] rfl ?_
  exact hK5 _ _ _ h
set_option maxHeartbeats 4000000 in
set_option maxRecDepth 100000 in
theorem s0_highestWork_c40 {G : GG} {b : Nat} (hb : ob b 0) {K5 : Int32 → Int32 → MM → Prop} {Q : Int32 → MM → Prop} (hK5 : ∀ (x1 : Int32) (x2 : Int32) (M : MM), K5 x1 x2 M → A0_highestWork G Q 5 [(0, .ref (gA G b)), (1, .int x1), (2, .int x2)] [] M) : ∀ (x2 : Int32) (M : MM), D0_highestWork_c40 b K5 Q x2 M → A0_highestWork G Q 40 [(0, .ref (gA G b)), (2, .int x2)] [] M := by
  intro x2 M h
  unfold D0_highestWork_c40 at h
  refine a_iload_n dX0_highestWork_40 1 rfl ?_
  refine a_istore_n (i := 1) (L' := [(1, .int _), (0, .ref _), (2, .int _)]) dX0_highestWork_41 rfl (by decide) rfl ?_
  refine a_sub [1, 0, 2] rfl ?_
  exact s0_highestWork_c42 hb hK5 _ _ _ h
set_option maxHeartbeats 4000000 in
set_option maxRecDepth 100000 in
theorem s0_highestWork_c5 {G : GG} {b : Nat} (hb : ob b 0) {Q : Int32 → MM → Prop} : ∀ (n : Nat) (x1 : Int32) (x2 : Int32) (M : MM), D0_highestWork_c5 b Q n x1 x2 M → A0_highestWork G Q 5 [(0, .ref (gA G b)), (1, .int x1), (2, .int x2)] [] M := by
  intro n
  induction n with
  | zero => intro x1 x2 M h; exact h.elim
  | succ n ih =>
    intro x1 x2 M h
    unfold D0_highestWork_c5 at h
    refine a_iload_n dX0_highestWork_5 2 rfl ?_
    refine a_bipush (v := 10) dX0_highestWork_6 (by decide) ?_
    refine a_icmp_ge (tgt := 48) dX0_highestWork_8 (by decide) (fun c => ?_) (fun c => ?_)
    · have h := h.1 c
      refine a_iload_n dX0_highestWork_48 1 rfl ?_
      exact a_iret dX0_highestWork_49 ⟨_, rfl, h⟩
    · have h := h.2 c
      refine a_aload_n dX0_highestWork_11 0 rfl ?_
      refine a_iload_n dX0_highestWork_12 2 rfl ?_
      refine a_callVi (n := 1) [.int _] (C := RX0) (ci := 0) (qc := (RX0, TX0, 9)) (fsF := fl0 G _) hb.1 (fun _ => en0 hb.2) rfl rfl dX0_highestWork_13 (s0_stands hb h) (gV tbc kM_RX0_60_X0_stands kI_X0_stands kS_X0_stands kN_RX0 kC_X0_stands) rfl (by decide +kernel) ⟨Nat.le_of_ble_eq_true rfl, Nat.le_of_ble_eq_true rfl⟩ rfl rfl (Nat.le_of_ble_eq_true rfl) ⟨Nat.le_refl 0, Nat.le_refl 0⟩ (fun r M h => ?_)
      refine a_if_eq (tgt := 42) dX0_highestWork_16 (by decide) (fun c => ?_) (fun c => ?_)
      · have h := h.1 c
        refine a_sub [0, 1, 2] rfl ?_
        exact s0_highestWork_c42 hb ih _ _ _ h
      · have h := h.2 c
        refine a_iload_n dX0_highestWork_19 1 rfl ?_
        refine a_if_lt (tgt := 40) dX0_highestWork_20 (by decide) (fun c => ?_) (fun c => ?_)
        · have h := h.1 c
          refine a_sub [0, 2] rfl ?_
          exact s0_highestWork_c40 hb ih _ _ h
        · have h := h.2 c
          refine a_aload_n dX0_highestWork_23 0 rfl ?_
          refine a_iload_n dX0_highestWork_24 2 rfl ?_
          refine a_callVi (n := 1) [.int _] (C := RX0) (ci := 0) (qc := (RX0, TX0, 9)) (fsF := fl0 G _) hb.1 (fun _ => en0 hb.2) rfl rfl dX0_highestWork_25 (s0_cellOf hb h) (gV tbc kM_RX0_117_X0_cellOf kI_X0_cellOf kS_X0_cellOf kN_RX0 kC_X0_cellOf) rfl (by decide +kernel) ⟨Nat.le_of_ble_eq_true rfl, Nat.le_of_ble_eq_true rfl⟩ rfl rfl (Nat.le_of_ble_eq_true rfl) ⟨Nat.le_refl 0, Nat.le_refl 0⟩ (fun r M h => ?_)
          refine a_iconst (v := 5) dX0_highestWork_28 (by decide) ?_
          refine a_idiv dX0_highestWork_29 (by decide) ?_
          refine a_aload_n dX0_highestWork_30 0 rfl ?_
          refine a_iload_n dX0_highestWork_31 1 rfl ?_
          refine a_callVi (n := 1) [.int _] (C := RX0) (ci := 0) (qc := (RX0, TX0, 9)) (fsF := fl0 G _) hb.1 (fun _ => en0 hb.2) rfl rfl dX0_highestWork_32 (s0_cellOf hb h) (gV tbc kM_RX0_117_X0_cellOf kI_X0_cellOf kS_X0_cellOf kN_RX0 kC_X0_cellOf) rfl (by decide +kernel) ⟨Nat.le_of_ble_eq_true rfl, Nat.le_of_ble_eq_true rfl⟩ rfl rfl (Nat.le_of_ble_eq_true rfl) ⟨Nat.le_refl 0, Nat.le_refl 0⟩ (fun r M h => ?_)
          refine a_iconst (v := 5) dX0_highestWork_35 (by decide) ?_
          refine a_idiv dX0_highestWork_36 (by decide) ?_
          refine a_icmp_ge (tgt := 42) dX0_highestWork_37 (by decide) (fun c => ?_) (fun c => ?_)
          · have h := h.1 c
            refine a_sub [0, 1, 2] rfl ?_
            exact s0_highestWork_c42 hb ih _ _ _ h
          · have h := h.2 c
            refine a_sub [0, 2] rfl ?_
            exact s0_highestWork_c40 hb ih _ _ h
set_option maxHeartbeats 4000000 in
set_option maxRecDepth 100000 in
theorem s0_highestWork {G : GG} {b : Nat} (hb : ob b 0) {M : MM} {Q : Int32 → MM → Prop} (h : D0_highestWork b M Q) : CM G yX0_highestWork (WY yX0_highestWork cX0_highestWork 3 (some .int)) 2 42 [.ref (gA G b)] M (qI Q) := by
  refine CM.of (cc := cX0_highestWork) (nL := 3) (ret := (some .int)) (own := RX0) (by decide +kernel) rfl rfl (Nat.le_of_ble_eq_true rfl) ?_
  show A0_highestWork G Q 0 [(0, .ref (gA G b))] [] M
  unfold D0_highestWork at h
  refine a_bipush (v := -9) dX0_highestWork_0 (by decide) ?_
  refine a_istore_n (i := 1) (L' := [(1, .int _), (0, .ref _)]) dX0_highestWork_2 rfl (by decide) rfl ?_
  refine a_iconst (v := 0) dX0_highestWork_3 (by decide) ?_
  refine a_istore_n (i := 2) (L' := [(2, .int _), (1, .int _), (0, .ref _)]) dX0_highestWork_4 rfl (by decide) rfl ?_
  refine a_sub [2, 1, 0] rfl ?_
  exact s0_highestWork_c5 hb _ _ _ _ h

/-! X0_leastBeyond -/
theorem dX0_leastBeyond_0 : decode cX0_leastBeyond 0 = .ok (.bipush (-9), 2) := by decide +kernel
theorem dX0_leastBeyond_2 : decode cX0_leastBeyond 2 = .ok (.istore_n 1, 1) := by decide +kernel
theorem dX0_leastBeyond_3 : decode cX0_leastBeyond 3 = .ok (.iconst 0, 1) := by decide +kernel
theorem dX0_leastBeyond_4 : decode cX0_leastBeyond 4 = .ok (.istore_n 2, 1) := by decide +kernel
theorem dX0_leastBeyond_5 : decode cX0_leastBeyond 5 = .ok (.iload_n 2, 1) := by decide +kernel
theorem dX0_leastBeyond_6 : decode cX0_leastBeyond 6 = .ok (.bipush 10, 2) := by decide +kernel
theorem dX0_leastBeyond_8 : decode cX0_leastBeyond 8 = .ok (.if_icmp .ge 36, 3) := by decide +kernel
theorem dX0_leastBeyond_11 : decode cX0_leastBeyond 11 = .ok (.aload_n 0, 1) := by decide +kernel
theorem dX0_leastBeyond_12 : decode cX0_leastBeyond 12 = .ok (.iload_n 2, 1) := by decide +kernel
theorem dX0_leastBeyond_13 : decode cX0_leastBeyond 13 = .ok (.invokevirtual 60, 3) := by decide +kernel
theorem dX0_leastBeyond_16 : decode cX0_leastBeyond 16 = .ok (.ifCond .eq 22, 3) := by decide +kernel
theorem dX0_leastBeyond_19 : decode cX0_leastBeyond 19 = .ok (.iload_n 1, 1) := by decide +kernel
theorem dX0_leastBeyond_20 : decode cX0_leastBeyond 20 = .ok (.ifCond .lt 16, 3) := by decide +kernel
theorem dX0_leastBeyond_23 : decode cX0_leastBeyond 23 = .ok (.aload_n 0, 1) := by decide +kernel
theorem dX0_leastBeyond_24 : decode cX0_leastBeyond 24 = .ok (.iload_n 2, 1) := by decide +kernel
theorem dX0_leastBeyond_25 : decode cX0_leastBeyond 25 = .ok (.invokevirtual 108, 3) := by decide +kernel
theorem dX0_leastBeyond_28 : decode cX0_leastBeyond 28 = .ok (.aload_n 0, 1) := by decide +kernel
theorem dX0_leastBeyond_29 : decode cX0_leastBeyond 29 = .ok (.iload_n 1, 1) := by decide +kernel
theorem dX0_leastBeyond_30 : decode cX0_leastBeyond 30 = .ok (.invokevirtual 108, 3) := by decide +kernel
theorem dX0_leastBeyond_33 : decode cX0_leastBeyond 33 = .ok (.if_icmp .ge 5, 3) := by decide +kernel
theorem dX0_leastBeyond_36 : decode cX0_leastBeyond 36 = .ok (.iload_n 2, 1) := by decide +kernel
theorem dX0_leastBeyond_37 : decode cX0_leastBeyond 37 = .ok (.istore_n 1, 1) := by decide +kernel
theorem dX0_leastBeyond_38 : decode cX0_leastBeyond 38 = .ok (.iinc 2 1, 3) := by decide +kernel
theorem dX0_leastBeyond_41 : decode cX0_leastBeyond 41 = .ok (.goto (-36), 3) := by decide +kernel
theorem dX0_leastBeyond_44 : decode cX0_leastBeyond 44 = .ok (.iload_n 1, 1) := by decide +kernel
theorem dX0_leastBeyond_45 : decode cX0_leastBeyond 45 = .ok (.ireturn, 1) := by decide +kernel
abbrev A0_leastBeyond (G : GG) (Q : Int32 → MM → Prop) := AW G E0 (MZ G (qI Q)) (WY yX0_leastBeyond cX0_leastBeyond 3 (some .int)) RX0 cX0_leastBeyond 3 (some .int) ({ frames := 4, cells := 0, slots := 0, locals := 84 } : Room) 0 0
def D0_leastBeyond_c38 (b : Nat) (K5 : Int32 → Int32 → MM → Prop) (Q : Int32 → MM → Prop) (x1 : Int32) (x2 : Int32) (M : MM) : Prop := (fun v7 : Int32 => K5 x1 v7 M) (x2 + (1 : Int32))
def D0_leastBeyond_c36 (b : Nat) (K5 : Int32 → Int32 → MM → Prop) (Q : Int32 → MM → Prop) (x2 : Int32) (M : MM) : Prop := D0_leastBeyond_c38 b K5 Q x2 x2 M
def D0_leastBeyond_c5 (b : Nat) (Q : Int32 → MM → Prop) : Nat → Int32 → Int32 → MM → Prop
  | 0, _, _, _ => False
  | n + 1, x1, x2, M => (((10 : Int32) ≤ x2 → Q x1 M) ∧ (¬ (10 : Int32) ≤ x2 → D0_stands b x2 M (fun (r1 : Int32) (M2 : MM) => ((r1 = 0 → D0_leastBeyond_c38 b (D0_leastBeyond_c5 b Q n) Q x1 x2 M2) ∧ (¬ r1 = 0 → ((x1 < 0 → D0_leastBeyond_c36 b (D0_leastBeyond_c5 b Q n) Q x2 M2) ∧ (¬ x1 < 0 → D0_beyond b x2 M2 (fun (r3 : Int32) (M4 : MM) => D0_beyond b x1 M4 (fun (r5 : Int32) (M6 : MM) => ((r5 ≤ r3 → D0_leastBeyond_c38 b (D0_leastBeyond_c5 b Q n) Q x1 x2 M6) ∧ (¬ r5 ≤ r3 → D0_leastBeyond_c36 b (D0_leastBeyond_c5 b Q n) Q x2 M6)))))))))))
def D0_leastBeyond (b : Nat) (M : MM) (Q : Int32 → MM → Prop) : Prop := D0_leastBeyond_c5 b Q FU (-9 : Int32) (0 : Int32) M
set_option maxHeartbeats 4000000 in
set_option maxRecDepth 100000 in
theorem s0_leastBeyond_c38 {G : GG} {b : Nat} (hb : ob b 0) {K5 : Int32 → Int32 → MM → Prop} {Q : Int32 → MM → Prop} (hK5 : ∀ (x1 : Int32) (x2 : Int32) (M : MM), K5 x1 x2 M → A0_leastBeyond G Q 5 [(0, .ref (gA G b)), (1, .int x1), (2, .int x2)] [] M) : ∀ (x1 : Int32) (x2 : Int32) (M : MM), D0_leastBeyond_c38 b K5 Q x1 x2 M → A0_leastBeyond G Q 38 [(0, .ref (gA G b)), (1, .int x1), (2, .int x2)] [] M := by
  intro x1 x2 M h
  unfold D0_leastBeyond_c38 at h
  refine a_iinc (L' := [(2, .int _), (0, .ref _), (1, .int _)]) dX0_leastBeyond_38 2 rfl (show _ + Int32.ofInt (1 : Int) = _ + (1 : Int32) from rfl) (by decide) rfl ?_
  refine a_goto (tgt := 5) dX0_leastBeyond_41 (by decide) ?_
  refine a_sub [1, 2, 0] rfl ?_
  exact hK5 _ _ _ h
set_option maxHeartbeats 4000000 in
set_option maxRecDepth 100000 in
theorem s0_leastBeyond_c36 {G : GG} {b : Nat} (hb : ob b 0) {K5 : Int32 → Int32 → MM → Prop} {Q : Int32 → MM → Prop} (hK5 : ∀ (x1 : Int32) (x2 : Int32) (M : MM), K5 x1 x2 M → A0_leastBeyond G Q 5 [(0, .ref (gA G b)), (1, .int x1), (2, .int x2)] [] M) : ∀ (x2 : Int32) (M : MM), D0_leastBeyond_c36 b K5 Q x2 M → A0_leastBeyond G Q 36 [(0, .ref (gA G b)), (2, .int x2)] [] M := by
  intro x2 M h
  unfold D0_leastBeyond_c36 at h
  refine a_iload_n dX0_leastBeyond_36 1 rfl ?_
  refine a_istore_n (i := 1) (L' := [(1, .int _), (0, .ref _), (2, .int _)]) dX0_leastBeyond_37 rfl (by decide) rfl ?_
  refine a_sub [1, 0, 2] rfl ?_
  exact s0_leastBeyond_c38 hb hK5 _ _ _ h
set_option maxHeartbeats 4000000 in
set_option maxRecDepth 100000 in
theorem s0_leastBeyond_c5 {G : GG} {b : Nat} (hb : ob b 0) {Q : Int32 → MM → Prop} : ∀ (n : Nat) (x1 : Int32) (x2 : Int32) (M : MM), D0_leastBeyond_c5 b Q n x1 x2 M → A0_leastBeyond G Q 5 [(0, .ref (gA G b)), (1, .int x1), (2, .int x2)] [] M := by
  intro n
  induction n with
  | zero => intro x1 x2 M h; exact h.elim
  | succ n ih =>
    intro x1 x2 M h
    unfold D0_leastBeyond_c5 at h
    refine a_iload_n dX0_leastBeyond_5 2 rfl ?_
    refine a_bipush (v := 10) dX0_leastBeyond_6 (by decide) ?_
    refine a_icmp_ge (tgt := 44) dX0_leastBeyond_8 (by decide) (fun c => ?_) (fun c => ?_)
    · have h := h.1 c
      refine a_iload_n dX0_leastBeyond_44 1 rfl ?_
      exact a_iret dX0_leastBeyond_45 ⟨_, rfl, h⟩
    · have h := h.2 c
      refine a_aload_n dX0_leastBeyond_11 0 rfl ?_
      refine a_iload_n dX0_leastBeyond_12 2 rfl ?_
      refine a_callVi (n := 1) [.int _] (C := RX0) (ci := 0) (qc := (RX0, TX0, 9)) (fsF := fl0 G _) hb.1 (fun _ => en0 hb.2) rfl rfl dX0_leastBeyond_13 (s0_stands hb h) (gV tbc kM_RX0_60_X0_stands kI_X0_stands kS_X0_stands kN_RX0 kC_X0_stands) rfl (by decide +kernel) ⟨Nat.le_of_ble_eq_true rfl, Nat.le_of_ble_eq_true rfl⟩ rfl rfl (Nat.le_of_ble_eq_true rfl) ⟨Nat.le_refl 0, Nat.le_refl 0⟩ (fun r M h => ?_)
      refine a_if_eq (tgt := 38) dX0_leastBeyond_16 (by decide) (fun c => ?_) (fun c => ?_)
      · have h := h.1 c
        refine a_sub [0, 1, 2] rfl ?_
        exact s0_leastBeyond_c38 hb ih _ _ _ h
      · have h := h.2 c
        refine a_iload_n dX0_leastBeyond_19 1 rfl ?_
        refine a_if_lt (tgt := 36) dX0_leastBeyond_20 (by decide) (fun c => ?_) (fun c => ?_)
        · have h := h.1 c
          refine a_sub [0, 2] rfl ?_
          exact s0_leastBeyond_c36 hb ih _ _ h
        · have h := h.2 c
          refine a_aload_n dX0_leastBeyond_23 0 rfl ?_
          refine a_iload_n dX0_leastBeyond_24 2 rfl ?_
          refine a_callVi (n := 1) [.int _] (C := RX0) (ci := 0) (qc := (RX0, TX0, 9)) (fsF := fl0 G _) hb.1 (fun _ => en0 hb.2) rfl rfl dX0_leastBeyond_25 (s0_beyond hb h) (gV tbc kM_RX0_108_X0_beyond kI_X0_beyond kS_X0_beyond kN_RX0 kC_X0_beyond) rfl (by decide +kernel) ⟨Nat.le_of_ble_eq_true rfl, Nat.le_of_ble_eq_true rfl⟩ rfl rfl (Nat.le_of_ble_eq_true rfl) ⟨Nat.le_refl 0, Nat.le_refl 0⟩ (fun r M h => ?_)
          refine a_aload_n dX0_leastBeyond_28 0 rfl ?_
          refine a_iload_n dX0_leastBeyond_29 1 rfl ?_
          refine a_callVi (n := 1) [.int _] (C := RX0) (ci := 0) (qc := (RX0, TX0, 9)) (fsF := fl0 G _) hb.1 (fun _ => en0 hb.2) rfl rfl dX0_leastBeyond_30 (s0_beyond hb h) (gV tbc kM_RX0_108_X0_beyond kI_X0_beyond kS_X0_beyond kN_RX0 kC_X0_beyond) rfl (by decide +kernel) ⟨Nat.le_of_ble_eq_true rfl, Nat.le_of_ble_eq_true rfl⟩ rfl rfl (Nat.le_of_ble_eq_true rfl) ⟨Nat.le_refl 0, Nat.le_refl 0⟩ (fun r M h => ?_)
          refine a_icmp_ge (tgt := 38) dX0_leastBeyond_33 (by decide) (fun c => ?_) (fun c => ?_)
          · have h := h.1 c
            refine a_sub [0, 1, 2] rfl ?_
            exact s0_leastBeyond_c38 hb ih _ _ _ h
          · have h := h.2 c
            refine a_sub [0, 2] rfl ?_
            exact s0_leastBeyond_c36 hb ih _ _ h
set_option maxHeartbeats 4000000 in
set_option maxRecDepth 100000 in
theorem s0_leastBeyond {G : GG} {b : Nat} (hb : ob b 0) {M : MM} {Q : Int32 → MM → Prop} (h : D0_leastBeyond b M Q) : CM G yX0_leastBeyond (WY yX0_leastBeyond cX0_leastBeyond 3 (some .int)) 4 84 [.ref (gA G b)] M (qI Q) := by
  refine CM.of (cc := cX0_leastBeyond) (nL := 3) (ret := (some .int)) (own := RX0) (by decide +kernel) rfl rfl (Nat.le_of_ble_eq_true rfl) ?_
  show A0_leastBeyond G Q 0 [(0, .ref (gA G b))] [] M
  unfold D0_leastBeyond at h
  refine a_bipush (v := -9) dX0_leastBeyond_0 (by decide) ?_
  refine a_istore_n (i := 1) (L' := [(1, .int _), (0, .ref _)]) dX0_leastBeyond_2 rfl (by decide) rfl ?_
  refine a_iconst (v := 0) dX0_leastBeyond_3 (by decide) ?_
  refine a_istore_n (i := 2) (L' := [(2, .int _), (1, .int _), (0, .ref _)]) dX0_leastBeyond_4 rfl (by decide) rfl ?_
  refine a_sub [2, 1, 0] rfl ?_
  exact s0_leastBeyond_c5 hb _ _ _ _ h

/-! X0_loses -/
theorem dX0_loses_0 : decode cX0_loses 0 = .ok (.aload_n 0, 1) := by decide +kernel
theorem dX0_loses_1 : decode cX0_loses 1 = .ok (.iload_n 1, 1) := by decide +kernel
theorem dX0_loses_2 : decode cX0_loses 2 = .ok (.invokevirtual 40, 3) := by decide +kernel
theorem dX0_loses_5 : decode cX0_loses 5 = .ok (.ifCond .eq 17, 3) := by decide +kernel
theorem dX0_loses_8 : decode cX0_loses 8 = .ok (.aload_n 0, 1) := by decide +kernel
theorem dX0_loses_9 : decode cX0_loses 9 = .ok (.dup, 1) := by decide +kernel
theorem dX0_loses_10 : decode cX0_loses 10 = .ok (.getfield 28, 3) := by decide +kernel
theorem dX0_loses_13 : decode cX0_loses 13 = .ok (.iconst 1, 1) := by decide +kernel
theorem dX0_loses_14 : decode cX0_loses 14 = .ok (.iload_n 1, 1) := by decide +kernel
theorem dX0_loses_15 : decode cX0_loses 15 = .ok (.ishl, 1) := by decide +kernel
theorem dX0_loses_16 : decode cX0_loses 16 = .ok (.iconst (-1), 1) := by decide +kernel
theorem dX0_loses_17 : decode cX0_loses 17 = .ok (.ixor, 1) := by decide +kernel
theorem dX0_loses_18 : decode cX0_loses 18 = .ok (.iand, 1) := by decide +kernel
theorem dX0_loses_19 : decode cX0_loses 19 = .ok (.putfield 28, 3) := by decide +kernel
theorem dX0_loses_22 : decode cX0_loses 22 = .ok (.return_, 1) := by decide +kernel
abbrev A0_loses (G : GG) (Q : MM → Prop) := AW G E0 (MZ G (qV Q)) (WY yX0_loses cX0_loses 2 none) RX0 cX0_loses 2 none ({ frames := 1, cells := 0, slots := 0, locals := 21 } : Room) 0 0
def D0_loses (b : Nat) (x1 : Int32) (M : MM) (Q : MM → Prop) : Prop := D0_knows b x1 M (fun (r1 : Int32) (M2 : MM) => ((r1 = 0 → Q M2) ∧ (¬ r1 = 0 → (fun M3 : MM => Q M3) (up M2 b 5 ((M2 b 5) &&& (((1 : Int32) <<< (x1 &&& 31)) ^^^ (-1 : Int32)))))))
set_option maxHeartbeats 4000000 in
set_option maxRecDepth 100000 in
theorem s0_loses {G : GG} {b : Nat} (hb : ob b 0) {x1 : Int32} {M : MM} {Q : MM → Prop} (h : D0_loses b x1 M Q) : CM G yX0_loses (WY yX0_loses cX0_loses 2 none) 1 21 [.ref (gA G b), .int x1] M (qV Q) := by
  refine CM.of (cc := cX0_loses) (nL := 2) (ret := none) (own := RX0) (by decide +kernel) rfl rfl (Nat.le_of_ble_eq_true rfl) ?_
  show A0_loses G Q 0 [(0, .ref (gA G b)), (1, .int x1)] [] M
  unfold D0_loses at h
  refine a_aload_n dX0_loses_0 0 rfl ?_
  refine a_iload_n dX0_loses_1 1 rfl ?_
  refine a_callVi (n := 1) [.int _] (C := RX0) (ci := 0) (qc := (RX0, TX0, 9)) (fsF := fl0 G _) hb.1 (fun _ => en0 hb.2) rfl rfl dX0_loses_2 (s0_knows hb h) (gV tbc kM_RX0_40_X0_knows kI_X0_knows kS_X0_knows kN_RX0 kC_X0_knows) rfl (by decide +kernel) ⟨Nat.le_of_ble_eq_true rfl, Nat.le_of_ble_eq_true rfl⟩ rfl rfl (Nat.le_of_ble_eq_true rfl) ⟨Nat.le_refl 0, Nat.le_refl 0⟩ (fun r M h => ?_)
  refine a_if_eq (tgt := 22) dX0_loses_5 (by decide) (fun c => ?_) (fun c => ?_)
  · have h := h.1 c
    exact a_vret dX0_loses_22 ⟨rfl, h⟩
  · have h := h.2 c
    refine a_aload_n dX0_loses_8 0 rfl ?_
    refine a_dup dX0_loses_9 rfl ?_
    refine a_get0 dX0_loses_10 5 (by decide) (tbc _ kF_RX0_28) (fun w h => tbc _ (uW0 w h)) rfl hb rfl ?_
    refine a_iconst (v := 1) dX0_loses_13 (by decide) ?_
    refine a_iload_n dX0_loses_14 1 rfl ?_
    refine a_ishl dX0_loses_15 ?_
    refine a_iconst (v := -1) dX0_loses_16 (by decide) ?_
    refine a_ixor dX0_loses_17 ?_
    refine a_iand dX0_loses_18 ?_
    refine a_put0 dX0_loses_19 5 (by decide) (tbc _ kF_RX0_28) (fun w h => tbc _ (uW0 w h)) rfl rfl rfl rfl hb fs0_5 ?_
    exact a_vret dX0_loses_22 ⟨rfl, h⟩

/-! X0_pairsBeside -/
theorem dX0_pairsBeside_0 : decode cX0_pairsBeside 0 = .ok (.iconst 0, 1) := by decide +kernel
theorem dX0_pairsBeside_1 : decode cX0_pairsBeside 1 = .ok (.istore_n 1, 1) := by decide +kernel
theorem dX0_pairsBeside_2 : decode cX0_pairsBeside 2 = .ok (.iconst 0, 1) := by decide +kernel
theorem dX0_pairsBeside_3 : decode cX0_pairsBeside 3 = .ok (.istore_n 2, 1) := by decide +kernel
theorem dX0_pairsBeside_4 : decode cX0_pairsBeside 4 = .ok (.iload_n 2, 1) := by decide +kernel
theorem dX0_pairsBeside_5 : decode cX0_pairsBeside 5 = .ok (.bipush 10, 2) := by decide +kernel
theorem dX0_pairsBeside_7 : decode cX0_pairsBeside 7 = .ok (.if_icmp .ge 63, 3) := by decide +kernel
theorem dX0_pairsBeside_10 : decode cX0_pairsBeside 10 = .ok (.iload_n 2, 1) := by decide +kernel
theorem dX0_pairsBeside_11 : decode cX0_pairsBeside 11 = .ok (.iconst 1, 1) := by decide +kernel
theorem dX0_pairsBeside_12 : decode cX0_pairsBeside 12 = .ok (.iadd, 1) := by decide +kernel
theorem dX0_pairsBeside_13 : decode cX0_pairsBeside 13 = .ok (.istore_n 3, 1) := by decide +kernel
theorem dX0_pairsBeside_14 : decode cX0_pairsBeside 14 = .ok (.iload_n 3, 1) := by decide +kernel
theorem dX0_pairsBeside_15 : decode cX0_pairsBeside 15 = .ok (.bipush 10, 2) := by decide +kernel
theorem dX0_pairsBeside_17 : decode cX0_pairsBeside 17 = .ok (.if_icmp .ge 47, 3) := by decide +kernel
theorem dX0_pairsBeside_20 : decode cX0_pairsBeside 20 = .ok (.aload_n 0, 1) := by decide +kernel
theorem dX0_pairsBeside_21 : decode cX0_pairsBeside 21 = .ok (.iload_n 2, 1) := by decide +kernel
theorem dX0_pairsBeside_22 : decode cX0_pairsBeside 22 = .ok (.invokevirtual 60, 3) := by decide +kernel
theorem dX0_pairsBeside_25 : decode cX0_pairsBeside 25 = .ok (.ifCond .eq 33, 3) := by decide +kernel
theorem dX0_pairsBeside_28 : decode cX0_pairsBeside 28 = .ok (.aload_n 0, 1) := by decide +kernel
theorem dX0_pairsBeside_29 : decode cX0_pairsBeside 29 = .ok (.iload_n 3, 1) := by decide +kernel
theorem dX0_pairsBeside_30 : decode cX0_pairsBeside 30 = .ok (.invokevirtual 60, 3) := by decide +kernel
theorem dX0_pairsBeside_33 : decode cX0_pairsBeside 33 = .ok (.ifCond .eq 25, 3) := by decide +kernel
theorem dX0_pairsBeside_36 : decode cX0_pairsBeside 36 = .ok (.aload_n 0, 1) := by decide +kernel
theorem dX0_pairsBeside_37 : decode cX0_pairsBeside 37 = .ok (.getfield 18, 3) := by decide +kernel
theorem dX0_pairsBeside_40 : decode cX0_pairsBeside 40 = .ok (.iload_n 2, 1) := by decide +kernel
theorem dX0_pairsBeside_41 : decode cX0_pairsBeside 41 = .ok (.iaload, 1) := by decide +kernel
theorem dX0_pairsBeside_42 : decode cX0_pairsBeside 42 = .ok (.aload_n 0, 1) := by decide +kernel
theorem dX0_pairsBeside_43 : decode cX0_pairsBeside 43 = .ok (.getfield 18, 3) := by decide +kernel
theorem dX0_pairsBeside_46 : decode cX0_pairsBeside 46 = .ok (.iload_n 3, 1) := by decide +kernel
theorem dX0_pairsBeside_47 : decode cX0_pairsBeside 47 = .ok (.iaload, 1) := by decide +kernel
theorem dX0_pairsBeside_48 : decode cX0_pairsBeside 48 = .ok (.invokestatic 124, 3) := by decide +kernel
theorem dX0_pairsBeside_51 : decode cX0_pairsBeside 51 = .ok (.iconst 1, 1) := by decide +kernel
theorem dX0_pairsBeside_52 : decode cX0_pairsBeside 52 = .ok (.if_icmp .ne 6, 3) := by decide +kernel
theorem dX0_pairsBeside_55 : decode cX0_pairsBeside 55 = .ok (.iinc 1 1, 3) := by decide +kernel
theorem dX0_pairsBeside_58 : decode cX0_pairsBeside 58 = .ok (.iinc 3 1, 3) := by decide +kernel
theorem dX0_pairsBeside_61 : decode cX0_pairsBeside 61 = .ok (.goto (-47), 3) := by decide +kernel
theorem dX0_pairsBeside_64 : decode cX0_pairsBeside 64 = .ok (.iinc 2 1, 3) := by decide +kernel
theorem dX0_pairsBeside_67 : decode cX0_pairsBeside 67 = .ok (.goto (-63), 3) := by decide +kernel
theorem dX0_pairsBeside_70 : decode cX0_pairsBeside 70 = .ok (.iload_n 1, 1) := by decide +kernel
theorem dX0_pairsBeside_71 : decode cX0_pairsBeside 71 = .ok (.ireturn, 1) := by decide +kernel
abbrev A0_pairsBeside (G : GG) (Q : Int32 → MM → Prop) := AW G E0 (MZ G (qI Q)) (WY yX0_pairsBeside cX0_pairsBeside 4 (some .int)) RX0 cX0_pairsBeside 4 (some .int) ({ frames := 2, cells := 0, slots := 0, locals := 42 } : Room) 0 0
def D0_pairsBeside_c58 (b : Nat) (K14 : Int32 → Int32 → Int32 → MM → Prop) (K4 : Int32 → Int32 → MM → Prop) (Q : Int32 → MM → Prop) (x1 : Int32) (x2 : Int32) (x3 : Int32) (M : MM) : Prop := (fun v10 : Int32 => K14 x1 x2 v10 M) (x3 + (1 : Int32))
def D0_pairsBeside_c64 (b : Nat) (K4 : Int32 → Int32 → MM → Prop) (Q : Int32 → MM → Prop) (x1 : Int32) (x2 : Int32) (M : MM) : Prop := (fun v9 : Int32 => K4 x1 v9 M) (x2 + (1 : Int32))
def D0_pairsBeside_c14 (b : Nat) (K4 : Int32 → Int32 → MM → Prop) (Q : Int32 → MM → Prop) : Nat → Int32 → Int32 → Int32 → MM → Prop
  | 0, _, _, _, _ => False
  | n + 1, x1, x2, x3, M => (((10 : Int32) ≤ x3 → D0_pairsBeside_c64 b K4 Q x1 x2 M) ∧ (¬ (10 : Int32) ≤ x3 → D0_stands b x2 M (fun (r2 : Int32) (M3 : MM) => ((r2 = 0 → D0_pairsBeside_c58 b (D0_pairsBeside_c14 b K4 Q n) K4 Q x1 x2 x3 M3) ∧ (¬ r2 = 0 → D0_stands b x3 M3 (fun (r4 : Int32) (M5 : MM) => ((r4 = 0 → D0_pairsBeside_c58 b (D0_pairsBeside_c14 b K4 Q n) K4 Q x1 x2 x3 M5) ∧ (¬ r4 = 0 → ib (b + 3) x2 ∧ ib (b + 3) x3 ∧ D3_steps (M5 (b + 3) (ix x2)) (M5 (b + 3) (ix x3)) M5 (fun (r6 : Int32) (M7 : MM) => ((r6 ≠ (1 : Int32) → D0_pairsBeside_c58 b (D0_pairsBeside_c14 b K4 Q n) K4 Q x1 x2 x3 M7) ∧ (r6 = (1 : Int32) → (fun v8 : Int32 => D0_pairsBeside_c58 b (D0_pairsBeside_c14 b K4 Q n) K4 Q v8 x2 x3 M7) (x1 + (1 : Int32)))))))))))))
def D0_pairsBeside_c4 (b : Nat) (Q : Int32 → MM → Prop) : Nat → Int32 → Int32 → MM → Prop
  | 0, _, _, _ => False
  | n + 1, x1, x2, M => (((10 : Int32) ≤ x2 → Q x1 M) ∧ (¬ (10 : Int32) ≤ x2 → (fun v1 : Int32 => D0_pairsBeside_c14 b (D0_pairsBeside_c4 b Q n) Q FU x1 x2 v1 M) (x2 + (1 : Int32))))
def D0_pairsBeside (b : Nat) (M : MM) (Q : Int32 → MM → Prop) : Prop := D0_pairsBeside_c4 b Q FU (0 : Int32) (0 : Int32) M
set_option maxHeartbeats 4000000 in
set_option maxRecDepth 100000 in
theorem s0_pairsBeside_c58 {G : GG} {b : Nat} (hb : ob b 0) {K14 : Int32 → Int32 → Int32 → MM → Prop} {K4 : Int32 → Int32 → MM → Prop} {Q : Int32 → MM → Prop} (hK14 : ∀ (x1 : Int32) (x2 : Int32) (x3 : Int32) (M : MM), K14 x1 x2 x3 M → A0_pairsBeside G Q 14 [(0, .ref (gA G b)), (1, .int x1), (2, .int x2), (3, .int x3)] [] M) (hK4 : ∀ (x1 : Int32) (x2 : Int32) (M : MM), K4 x1 x2 M → A0_pairsBeside G Q 4 [(0, .ref (gA G b)), (1, .int x1), (2, .int x2)] [] M) : ∀ (x1 : Int32) (x2 : Int32) (x3 : Int32) (M : MM), D0_pairsBeside_c58 b K14 K4 Q x1 x2 x3 M → A0_pairsBeside G Q 58 [(0, .ref (gA G b)), (1, .int x1), (2, .int x2), (3, .int x3)] [] M := by
  intro x1 x2 x3 M h
  unfold D0_pairsBeside_c58 at h
  refine a_iinc (L' := [(3, .int _), (0, .ref _), (1, .int _), (2, .int _)]) dX0_pairsBeside_58 3 rfl (show _ + Int32.ofInt (1 : Int) = _ + (1 : Int32) from rfl) (by decide) rfl ?_
  refine a_goto (tgt := 14) dX0_pairsBeside_61 (by decide) ?_
  refine a_sub [1, 2, 3, 0] rfl ?_
  exact hK14 _ _ _ _ h
set_option maxHeartbeats 4000000 in
set_option maxRecDepth 100000 in
theorem s0_pairsBeside_c64 {G : GG} {b : Nat} (hb : ob b 0) {K4 : Int32 → Int32 → MM → Prop} {Q : Int32 → MM → Prop} (hK4 : ∀ (x1 : Int32) (x2 : Int32) (M : MM), K4 x1 x2 M → A0_pairsBeside G Q 4 [(0, .ref (gA G b)), (1, .int x1), (2, .int x2)] [] M) : ∀ (x1 : Int32) (x2 : Int32) (M : MM), D0_pairsBeside_c64 b K4 Q x1 x2 M → A0_pairsBeside G Q 64 [(0, .ref (gA G b)), (1, .int x1), (2, .int x2)] [] M := by
  intro x1 x2 M h
  unfold D0_pairsBeside_c64 at h
  refine a_iinc (L' := [(2, .int _), (0, .ref _), (1, .int _)]) dX0_pairsBeside_64 2 rfl (show _ + Int32.ofInt (1 : Int) = _ + (1 : Int32) from rfl) (by decide) rfl ?_
  refine a_goto (tgt := 4) dX0_pairsBeside_67 (by decide) ?_
  refine a_sub [1, 2, 0] rfl ?_
  exact hK4 _ _ _ h
set_option maxHeartbeats 4000000 in
set_option maxRecDepth 100000 in
theorem s0_pairsBeside_c14 {G : GG} {b : Nat} (hb : ob b 0) {K4 : Int32 → Int32 → MM → Prop} {Q : Int32 → MM → Prop} (hK4 : ∀ (x1 : Int32) (x2 : Int32) (M : MM), K4 x1 x2 M → A0_pairsBeside G Q 4 [(0, .ref (gA G b)), (1, .int x1), (2, .int x2)] [] M) : ∀ (n : Nat) (x1 : Int32) (x2 : Int32) (x3 : Int32) (M : MM), D0_pairsBeside_c14 b K4 Q n x1 x2 x3 M → A0_pairsBeside G Q 14 [(0, .ref (gA G b)), (1, .int x1), (2, .int x2), (3, .int x3)] [] M := by
  intro n
  induction n with
  | zero => intro x1 x2 x3 M h; exact h.elim
  | succ n ih =>
    intro x1 x2 x3 M h
    unfold D0_pairsBeside_c14 at h
    refine a_iload_n dX0_pairsBeside_14 3 rfl ?_
    refine a_bipush (v := 10) dX0_pairsBeside_15 (by decide) ?_
    refine a_icmp_ge (tgt := 64) dX0_pairsBeside_17 (by decide) (fun c => ?_) (fun c => ?_)
    · have h := h.1 c
      refine a_sub [0, 1, 2] rfl ?_
      exact s0_pairsBeside_c64 hb hK4 _ _ _ h
    · have h := h.2 c
      refine a_aload_n dX0_pairsBeside_20 0 rfl ?_
      refine a_iload_n dX0_pairsBeside_21 2 rfl ?_
      refine a_callVi (n := 1) [.int _] (C := RX0) (ci := 0) (qc := (RX0, TX0, 9)) (fsF := fl0 G _) hb.1 (fun _ => en0 hb.2) rfl rfl dX0_pairsBeside_22 (s0_stands hb h) (gV tbc kM_RX0_60_X0_stands kI_X0_stands kS_X0_stands kN_RX0 kC_X0_stands) rfl (by decide +kernel) ⟨Nat.le_of_ble_eq_true rfl, Nat.le_of_ble_eq_true rfl⟩ rfl rfl (Nat.le_of_ble_eq_true rfl) ⟨Nat.le_refl 0, Nat.le_refl 0⟩ (fun r M h => ?_)
      refine a_if_eq (tgt := 58) dX0_pairsBeside_25 (by decide) (fun c => ?_) (fun c => ?_)
      · have h := h.1 c
        refine a_sub [0, 1, 2, 3] rfl ?_
        exact s0_pairsBeside_c58 hb ih hK4 _ _ _ _ h
      · have h := h.2 c
        refine a_aload_n dX0_pairsBeside_28 0 rfl ?_
        refine a_iload_n dX0_pairsBeside_29 3 rfl ?_
        refine a_callVi (n := 1) [.int _] (C := RX0) (ci := 0) (qc := (RX0, TX0, 9)) (fsF := fl0 G _) hb.1 (fun _ => en0 hb.2) rfl rfl dX0_pairsBeside_30 (s0_stands hb h) (gV tbc kM_RX0_60_X0_stands kI_X0_stands kS_X0_stands kN_RX0 kC_X0_stands) rfl (by decide +kernel) ⟨Nat.le_of_ble_eq_true rfl, Nat.le_of_ble_eq_true rfl⟩ rfl rfl (Nat.le_of_ble_eq_true rfl) ⟨Nat.le_refl 0, Nat.le_refl 0⟩ (fun r M h => ?_)
        refine a_if_eq (tgt := 58) dX0_pairsBeside_33 (by decide) (fun c => ?_) (fun c => ?_)
        · have h := h.1 c
          refine a_sub [0, 1, 2, 3] rfl ?_
          exact s0_pairsBeside_c58 hb ih hK4 _ _ _ _ h
        · have h := h.2 c
          refine a_aload_n dX0_pairsBeside_36 0 rfl ?_
          refine a_get0 dX0_pairsBeside_37 2 (by decide) (tbc _ kF_RX0_18) (fun w h => tbc _ (uW0 w h)) rfl hb rfl ?_
          refine a_iload_n dX0_pairsBeside_40 2 rfl ?_
          refine a_iald dX0_pairsBeside_41 h.1 ?_
          have h := h.2
          refine a_aload_n dX0_pairsBeside_42 0 rfl ?_
          refine a_get0 dX0_pairsBeside_43 2 (by decide) (tbc _ kF_RX0_18) (fun w h => tbc _ (uW0 w h)) rfl hb rfl ?_
          refine a_iload_n dX0_pairsBeside_46 3 rfl ?_
          refine a_iald dX0_pairsBeside_47 h.1 ?_
          have h := h.2
          refine a_callSi (n := 2) [.int _, .int _] dX0_pairsBeside_48 (s3_steps h) (gS tbc kM_RX0_124_X3_steps kT_X3_steps kN_RX3 kC_X3_steps) rfl (by decide +kernel) ⟨Nat.le_of_ble_eq_true rfl, Nat.le_of_ble_eq_true rfl⟩ rfl rfl (Nat.le_of_ble_eq_true rfl) ⟨Nat.le_refl 0, Nat.le_refl 0⟩ (fun r M h => ?_)
          refine a_iconst (v := 1) dX0_pairsBeside_51 (by decide) ?_
          refine a_icmp_ne (tgt := 58) dX0_pairsBeside_52 (by decide) (fun c => ?_) (fun c => ?_)
          · have h := h.1 c
            refine a_sub [0, 1, 2, 3] rfl ?_
            exact s0_pairsBeside_c58 hb ih hK4 _ _ _ _ h
          · have h := h.2 c
            refine a_iinc (L' := [(1, .int _), (0, .ref _), (2, .int _), (3, .int _)]) dX0_pairsBeside_55 1 rfl (show _ + Int32.ofInt (1 : Int) = _ + (1 : Int32) from rfl) (by decide) rfl ?_
            refine a_sub [1, 0, 2, 3] rfl ?_
            exact s0_pairsBeside_c58 hb ih hK4 _ _ _ _ h
set_option maxHeartbeats 4000000 in
set_option maxRecDepth 100000 in
theorem s0_pairsBeside_c4 {G : GG} {b : Nat} (hb : ob b 0) {Q : Int32 → MM → Prop} : ∀ (n : Nat) (x1 : Int32) (x2 : Int32) (M : MM), D0_pairsBeside_c4 b Q n x1 x2 M → A0_pairsBeside G Q 4 [(0, .ref (gA G b)), (1, .int x1), (2, .int x2)] [] M := by
  intro n
  induction n with
  | zero => intro x1 x2 M h; exact h.elim
  | succ n ih =>
    intro x1 x2 M h
    unfold D0_pairsBeside_c4 at h
    refine a_iload_n dX0_pairsBeside_4 2 rfl ?_
    refine a_bipush (v := 10) dX0_pairsBeside_5 (by decide) ?_
    refine a_icmp_ge (tgt := 70) dX0_pairsBeside_7 (by decide) (fun c => ?_) (fun c => ?_)
    · have h := h.1 c
      refine a_iload_n dX0_pairsBeside_70 1 rfl ?_
      exact a_iret dX0_pairsBeside_71 ⟨_, rfl, h⟩
    · have h := h.2 c
      refine a_iload_n dX0_pairsBeside_10 2 rfl ?_
      refine a_iconst (v := 1) dX0_pairsBeside_11 (by decide) ?_
      refine a_iadd dX0_pairsBeside_12 ?_
      refine a_istore_n (i := 3) (L' := [(3, .int _), (0, .ref _), (1, .int _), (2, .int _)]) dX0_pairsBeside_13 rfl (by decide) rfl ?_
      refine a_sub [1, 2, 3, 0] rfl ?_
      exact s0_pairsBeside_c14 hb ih _ _ _ _ _ h
set_option maxHeartbeats 4000000 in
set_option maxRecDepth 100000 in
theorem s0_pairsBeside {G : GG} {b : Nat} (hb : ob b 0) {M : MM} {Q : Int32 → MM → Prop} (h : D0_pairsBeside b M Q) : CM G yX0_pairsBeside (WY yX0_pairsBeside cX0_pairsBeside 4 (some .int)) 2 42 [.ref (gA G b)] M (qI Q) := by
  refine CM.of (cc := cX0_pairsBeside) (nL := 4) (ret := (some .int)) (own := RX0) (by decide +kernel) rfl rfl (Nat.le_of_ble_eq_true rfl) ?_
  show A0_pairsBeside G Q 0 [(0, .ref (gA G b))] [] M
  unfold D0_pairsBeside at h
  refine a_iconst (v := 0) dX0_pairsBeside_0 (by decide) ?_
  refine a_istore_n (i := 1) (L' := [(1, .int _), (0, .ref _)]) dX0_pairsBeside_1 rfl (by decide) rfl ?_
  refine a_iconst (v := 0) dX0_pairsBeside_2 (by decide) ?_
  refine a_istore_n (i := 2) (L' := [(2, .int _), (1, .int _), (0, .ref _)]) dX0_pairsBeside_3 rfl (by decide) rfl ?_
  refine a_sub [2, 1, 0] rfl ?_
  exact s0_pairsBeside_c4 hb _ _ _ _ h

/-! X0_rates -/
theorem dX0_rates_0 : decode cX0_rates 0 = .ok (.iconst 0, 1) := by decide +kernel
theorem dX0_rates_1 : decode cX0_rates 1 = .ok (.istore_n 1, 1) := by decide +kernel
theorem dX0_rates_2 : decode cX0_rates 2 = .ok (.iconst 0, 1) := by decide +kernel
theorem dX0_rates_3 : decode cX0_rates 3 = .ok (.istore_n 2, 1) := by decide +kernel
theorem dX0_rates_4 : decode cX0_rates 4 = .ok (.iload_n 2, 1) := by decide +kernel
theorem dX0_rates_5 : decode cX0_rates 5 = .ok (.bipush 10, 2) := by decide +kernel
theorem dX0_rates_7 : decode cX0_rates 7 = .ok (.if_icmp .ge 25, 3) := by decide +kernel
theorem dX0_rates_10 : decode cX0_rates 10 = .ok (.aload_n 0, 1) := by decide +kernel
theorem dX0_rates_11 : decode cX0_rates 11 = .ok (.iload_n 2, 1) := by decide +kernel
theorem dX0_rates_12 : decode cX0_rates 12 = .ok (.invokevirtual 60, 3) := by decide +kernel
theorem dX0_rates_15 : decode cX0_rates 15 = .ok (.ifCond .eq 11, 3) := by decide +kernel
theorem dX0_rates_18 : decode cX0_rates 18 = .ok (.iload_n 1, 1) := by decide +kernel
theorem dX0_rates_19 : decode cX0_rates 19 = .ok (.aload_n 0, 1) := by decide +kernel
theorem dX0_rates_20 : decode cX0_rates 20 = .ok (.iload_n 2, 1) := by decide +kernel
theorem dX0_rates_21 : decode cX0_rates 21 = .ok (.invokevirtual 105, 3) := by decide +kernel
theorem dX0_rates_24 : decode cX0_rates 24 = .ok (.iadd, 1) := by decide +kernel
theorem dX0_rates_25 : decode cX0_rates 25 = .ok (.istore_n 1, 1) := by decide +kernel
theorem dX0_rates_26 : decode cX0_rates 26 = .ok (.iinc 2 1, 3) := by decide +kernel
theorem dX0_rates_29 : decode cX0_rates 29 = .ok (.goto (-25), 3) := by decide +kernel
theorem dX0_rates_32 : decode cX0_rates 32 = .ok (.iload_n 1, 1) := by decide +kernel
theorem dX0_rates_33 : decode cX0_rates 33 = .ok (.ireturn, 1) := by decide +kernel
abbrev A0_rates (G : GG) (Q : Int32 → MM → Prop) := AW G E0 (MZ G (qI Q)) (WY yX0_rates cX0_rates 3 (some .int)) RX0 cX0_rates 3 (some .int) ({ frames := 3, cells := 0, slots := 0, locals := 63 } : Room) 0 0
def D0_rates_c26 (b : Nat) (K4 : Int32 → Int32 → MM → Prop) (Q : Int32 → MM → Prop) (x1 : Int32) (x2 : Int32) (M : MM) : Prop := (fun v6 : Int32 => K4 x1 v6 M) (x2 + (1 : Int32))
def D0_rates_c4 (b : Nat) (Q : Int32 → MM → Prop) : Nat → Int32 → Int32 → MM → Prop
  | 0, _, _, _ => False
  | n + 1, x1, x2, M => (((10 : Int32) ≤ x2 → Q x1 M) ∧ (¬ (10 : Int32) ≤ x2 → D0_stands b x2 M (fun (r1 : Int32) (M2 : MM) => ((r1 = 0 → D0_rates_c26 b (D0_rates_c4 b Q n) Q x1 x2 M2) ∧ (¬ r1 = 0 → D0_rateOf b x2 M2 (fun (r3 : Int32) (M4 : MM) => (fun v5 : Int32 => D0_rates_c26 b (D0_rates_c4 b Q n) Q v5 x2 M4) (x1 + r3)))))))
def D0_rates (b : Nat) (M : MM) (Q : Int32 → MM → Prop) : Prop := D0_rates_c4 b Q FU (0 : Int32) (0 : Int32) M
set_option maxHeartbeats 4000000 in
set_option maxRecDepth 100000 in
theorem s0_rates_c26 {G : GG} {b : Nat} (hb : ob b 0) {K4 : Int32 → Int32 → MM → Prop} {Q : Int32 → MM → Prop} (hK4 : ∀ (x1 : Int32) (x2 : Int32) (M : MM), K4 x1 x2 M → A0_rates G Q 4 [(0, .ref (gA G b)), (1, .int x1), (2, .int x2)] [] M) : ∀ (x1 : Int32) (x2 : Int32) (M : MM), D0_rates_c26 b K4 Q x1 x2 M → A0_rates G Q 26 [(0, .ref (gA G b)), (1, .int x1), (2, .int x2)] [] M := by
  intro x1 x2 M h
  unfold D0_rates_c26 at h
  refine a_iinc (L' := [(2, .int _), (0, .ref _), (1, .int _)]) dX0_rates_26 2 rfl (show _ + Int32.ofInt (1 : Int) = _ + (1 : Int32) from rfl) (by decide) rfl ?_
  refine a_goto (tgt := 4) dX0_rates_29 (by decide) ?_
  refine a_sub [1, 2, 0] rfl ?_
  exact hK4 _ _ _ h
set_option maxHeartbeats 4000000 in
set_option maxRecDepth 100000 in
theorem s0_rates_c4 {G : GG} {b : Nat} (hb : ob b 0) {Q : Int32 → MM → Prop} : ∀ (n : Nat) (x1 : Int32) (x2 : Int32) (M : MM), D0_rates_c4 b Q n x1 x2 M → A0_rates G Q 4 [(0, .ref (gA G b)), (1, .int x1), (2, .int x2)] [] M := by
  intro n
  induction n with
  | zero => intro x1 x2 M h; exact h.elim
  | succ n ih =>
    intro x1 x2 M h
    unfold D0_rates_c4 at h
    refine a_iload_n dX0_rates_4 2 rfl ?_
    refine a_bipush (v := 10) dX0_rates_5 (by decide) ?_
    refine a_icmp_ge (tgt := 32) dX0_rates_7 (by decide) (fun c => ?_) (fun c => ?_)
    · have h := h.1 c
      refine a_iload_n dX0_rates_32 1 rfl ?_
      exact a_iret dX0_rates_33 ⟨_, rfl, h⟩
    · have h := h.2 c
      refine a_aload_n dX0_rates_10 0 rfl ?_
      refine a_iload_n dX0_rates_11 2 rfl ?_
      refine a_callVi (n := 1) [.int _] (C := RX0) (ci := 0) (qc := (RX0, TX0, 9)) (fsF := fl0 G _) hb.1 (fun _ => en0 hb.2) rfl rfl dX0_rates_12 (s0_stands hb h) (gV tbc kM_RX0_60_X0_stands kI_X0_stands kS_X0_stands kN_RX0 kC_X0_stands) rfl (by decide +kernel) ⟨Nat.le_of_ble_eq_true rfl, Nat.le_of_ble_eq_true rfl⟩ rfl rfl (Nat.le_of_ble_eq_true rfl) ⟨Nat.le_refl 0, Nat.le_refl 0⟩ (fun r M h => ?_)
      refine a_if_eq (tgt := 26) dX0_rates_15 (by decide) (fun c => ?_) (fun c => ?_)
      · have h := h.1 c
        refine a_sub [0, 1, 2] rfl ?_
        exact s0_rates_c26 hb ih _ _ _ h
      · have h := h.2 c
        refine a_iload_n dX0_rates_18 1 rfl ?_
        refine a_aload_n dX0_rates_19 0 rfl ?_
        refine a_iload_n dX0_rates_20 2 rfl ?_
        refine a_callVi (n := 1) [.int _] (C := RX0) (ci := 0) (qc := (RX0, TX0, 9)) (fsF := fl0 G _) hb.1 (fun _ => en0 hb.2) rfl rfl dX0_rates_21 (s0_rateOf hb h) (gV tbc kM_RX0_105_X0_rateOf kI_X0_rateOf kS_X0_rateOf kN_RX0 kC_X0_rateOf) rfl (by decide +kernel) ⟨Nat.le_of_ble_eq_true rfl, Nat.le_of_ble_eq_true rfl⟩ rfl rfl (Nat.le_of_ble_eq_true rfl) ⟨Nat.le_refl 0, Nat.le_refl 0⟩ (fun r M h => ?_)
        refine a_iadd dX0_rates_24 ?_
        refine a_istore_n (i := 1) (L' := [(1, .int _), (0, .ref _), (2, .int _)]) dX0_rates_25 rfl (by decide) rfl ?_
        refine a_sub [1, 0, 2] rfl ?_
        exact s0_rates_c26 hb ih _ _ _ h
set_option maxHeartbeats 4000000 in
set_option maxRecDepth 100000 in
theorem s0_rates {G : GG} {b : Nat} (hb : ob b 0) {M : MM} {Q : Int32 → MM → Prop} (h : D0_rates b M Q) : CM G yX0_rates (WY yX0_rates cX0_rates 3 (some .int)) 3 63 [.ref (gA G b)] M (qI Q) := by
  refine CM.of (cc := cX0_rates) (nL := 3) (ret := (some .int)) (own := RX0) (by decide +kernel) rfl rfl (Nat.le_of_ble_eq_true rfl) ?_
  show A0_rates G Q 0 [(0, .ref (gA G b))] [] M
  unfold D0_rates at h
  refine a_iconst (v := 0) dX0_rates_0 (by decide) ?_
  refine a_istore_n (i := 1) (L' := [(1, .int _), (0, .ref _)]) dX0_rates_1 rfl (by decide) rfl ?_
  refine a_iconst (v := 0) dX0_rates_2 (by decide) ?_
  refine a_istore_n (i := 2) (L' := [(2, .int _), (1, .int _), (0, .ref _)]) dX0_rates_3 rfl (by decide) rfl ?_
  refine a_sub [2, 1, 0] rfl ?_
  exact s0_rates_c4 hb _ _ _ _ h

/-! X0_settles -/
theorem dX0_settles_0 : decode cX0_settles 0 = .ok (.aload_n 0, 1) := by decide +kernel
theorem dX0_settles_1 : decode cX0_settles 1 = .ok (.iconst 0, 1) := by decide +kernel
theorem dX0_settles_2 : decode cX0_settles 2 = .ok (.aload_n 0, 1) := by decide +kernel
theorem dX0_settles_3 : decode cX0_settles 3 = .ok (.getfield 34, 3) := by decide +kernel
theorem dX0_settles_6 : decode cX0_settles 6 = .ok (.aload_n 0, 1) := by decide +kernel
theorem dX0_settles_7 : decode cX0_settles 7 = .ok (.getfield 37, 3) := by decide +kernel
theorem dX0_settles_10 : decode cX0_settles 10 = .ok (.isub, 1) := by decide +kernel
theorem dX0_settles_11 : decode cX0_settles 11 = .ok (.invokestatic 63, 3) := by decide +kernel
theorem dX0_settles_14 : decode cX0_settles 14 = .ok (.putfield 34, 3) := by decide +kernel
theorem dX0_settles_17 : decode cX0_settles 17 = .ok (.aload_n 0, 1) := by decide +kernel
theorem dX0_settles_18 : decode cX0_settles 18 = .ok (.iconst 0, 1) := by decide +kernel
theorem dX0_settles_19 : decode cX0_settles 19 = .ok (.putfield 37, 3) := by decide +kernel
theorem dX0_settles_22 : decode cX0_settles 22 = .ok (.return_, 1) := by decide +kernel
abbrev A0_settles (G : GG) (Q : MM → Prop) := AW G E0 (MZ G (qV Q)) (WY yX0_settles cX0_settles 1 none) RX0 cX0_settles 1 none ({ frames := 1, cells := 0, slots := 0, locals := 21 } : Room) 0 0
def D0_settles (b : Nat) (M : MM) (Q : MM → Prop) : Prop := (fun M1 : MM => (fun M2 : MM => Q M2) (up M1 b 8 (0 : Int32))) (up M b 7 (if (0 : Int32) < ((M b 7) - (M b 8)) then ((M b 7) - (M b 8)) else (0 : Int32)))
set_option maxHeartbeats 4000000 in
set_option maxRecDepth 100000 in
theorem s0_settles {G : GG} {b : Nat} (hb : ob b 0) {M : MM} {Q : MM → Prop} (h : D0_settles b M Q) : CM G yX0_settles (WY yX0_settles cX0_settles 1 none) 1 21 [.ref (gA G b)] M (qV Q) := by
  refine CM.of (cc := cX0_settles) (nL := 1) (ret := none) (own := RX0) (by decide +kernel) rfl rfl (Nat.le_of_ble_eq_true rfl) ?_
  show A0_settles G Q 0 [(0, .ref (gA G b))] [] M
  unfold D0_settles at h
  refine a_aload_n dX0_settles_0 0 rfl ?_
  refine a_iconst (v := 0) dX0_settles_1 (by decide) ?_
  refine a_aload_n dX0_settles_2 0 rfl ?_
  refine a_get0 dX0_settles_3 7 (by decide) (tbc _ kF_RX0_34) (fun w h => tbc _ (uW0 w h)) rfl hb rfl ?_
  refine a_aload_n dX0_settles_6 0 rfl ?_
  refine a_get0 dX0_settles_7 8 (by decide) (tbc _ kF_RX0_37) (fun w h => tbc _ (uW0 w h)) rfl hb rfl ?_
  refine a_isub dX0_settles_10 ?_
  refine a_mmax dX0_settles_11 (tbc _ kM_RX0_63_Lib_Math_max_name) (tbc _ kT_Lib_Math_max_name) (tbc _ kN_Math) (tbc _ kC_Lib_Math_max_name) (Nat.le_of_ble_eq_true rfl) (Nat.le_of_ble_eq_true rfl) (Nat.le_refl 0) (Nat.le_refl 0) ?_
  refine a_put0 dX0_settles_14 7 (by decide) (tbc _ kF_RX0_34) (fun w h => tbc _ (uW0 w h)) rfl rfl rfl rfl hb fs0_7 ?_
  refine a_aload_n dX0_settles_17 0 rfl ?_
  refine a_iconst (v := 0) dX0_settles_18 (by decide) ?_
  refine a_put0 dX0_settles_19 8 (by decide) (tbc _ kF_RX0_37) (fun w h => tbc _ (uW0 w h)) rfl rfl rfl rfl hb fs0_8 ?_
  exact a_vret dX0_settles_22 ⟨rfl, h⟩

/-! X0_spread -/
theorem dX0_spread_0 : decode cX0_spread 0 = .ok (.iconst 0, 1) := by decide +kernel
theorem dX0_spread_1 : decode cX0_spread 1 = .ok (.istore_n 1, 1) := by decide +kernel
theorem dX0_spread_2 : decode cX0_spread 2 = .ok (.iconst 0, 1) := by decide +kernel
theorem dX0_spread_3 : decode cX0_spread 3 = .ok (.istore_n 2, 1) := by decide +kernel
theorem dX0_spread_4 : decode cX0_spread 4 = .ok (.iload_n 2, 1) := by decide +kernel
theorem dX0_spread_5 : decode cX0_spread 5 = .ok (.bipush 10, 2) := by decide +kernel
theorem dX0_spread_7 : decode cX0_spread 7 = .ok (.if_icmp .ge 61, 3) := by decide +kernel
theorem dX0_spread_10 : decode cX0_spread 10 = .ok (.iload_n 2, 1) := by decide +kernel
theorem dX0_spread_11 : decode cX0_spread 11 = .ok (.iconst 1, 1) := by decide +kernel
theorem dX0_spread_12 : decode cX0_spread 12 = .ok (.iadd, 1) := by decide +kernel
theorem dX0_spread_13 : decode cX0_spread 13 = .ok (.istore_n 3, 1) := by decide +kernel
theorem dX0_spread_14 : decode cX0_spread 14 = .ok (.iload_n 3, 1) := by decide +kernel
theorem dX0_spread_15 : decode cX0_spread 15 = .ok (.bipush 10, 2) := by decide +kernel
theorem dX0_spread_17 : decode cX0_spread 17 = .ok (.if_icmp .ge 45, 3) := by decide +kernel
theorem dX0_spread_20 : decode cX0_spread 20 = .ok (.aload_n 0, 1) := by decide +kernel
theorem dX0_spread_21 : decode cX0_spread 21 = .ok (.iload_n 2, 1) := by decide +kernel
theorem dX0_spread_22 : decode cX0_spread 22 = .ok (.invokevirtual 60, 3) := by decide +kernel
theorem dX0_spread_25 : decode cX0_spread 25 = .ok (.ifCond .eq 31, 3) := by decide +kernel
theorem dX0_spread_28 : decode cX0_spread 28 = .ok (.aload_n 0, 1) := by decide +kernel
theorem dX0_spread_29 : decode cX0_spread 29 = .ok (.iload_n 3, 1) := by decide +kernel
theorem dX0_spread_30 : decode cX0_spread 30 = .ok (.invokevirtual 60, 3) := by decide +kernel
theorem dX0_spread_33 : decode cX0_spread 33 = .ok (.ifCond .eq 23, 3) := by decide +kernel
theorem dX0_spread_36 : decode cX0_spread 36 = .ok (.iload_n 1, 1) := by decide +kernel
theorem dX0_spread_37 : decode cX0_spread 37 = .ok (.aload_n 0, 1) := by decide +kernel
theorem dX0_spread_38 : decode cX0_spread 38 = .ok (.getfield 18, 3) := by decide +kernel
theorem dX0_spread_41 : decode cX0_spread 41 = .ok (.iload_n 2, 1) := by decide +kernel
theorem dX0_spread_42 : decode cX0_spread 42 = .ok (.iaload, 1) := by decide +kernel
theorem dX0_spread_43 : decode cX0_spread 43 = .ok (.aload_n 0, 1) := by decide +kernel
theorem dX0_spread_44 : decode cX0_spread 44 = .ok (.getfield 18, 3) := by decide +kernel
theorem dX0_spread_47 : decode cX0_spread 47 = .ok (.iload_n 3, 1) := by decide +kernel
theorem dX0_spread_48 : decode cX0_spread 48 = .ok (.iaload, 1) := by decide +kernel
theorem dX0_spread_49 : decode cX0_spread 49 = .ok (.invokestatic 124, 3) := by decide +kernel
theorem dX0_spread_52 : decode cX0_spread 52 = .ok (.invokestatic 63, 3) := by decide +kernel
theorem dX0_spread_55 : decode cX0_spread 55 = .ok (.istore_n 1, 1) := by decide +kernel
theorem dX0_spread_56 : decode cX0_spread 56 = .ok (.iinc 3 1, 3) := by decide +kernel
theorem dX0_spread_59 : decode cX0_spread 59 = .ok (.goto (-45), 3) := by decide +kernel
theorem dX0_spread_62 : decode cX0_spread 62 = .ok (.iinc 2 1, 3) := by decide +kernel
theorem dX0_spread_65 : decode cX0_spread 65 = .ok (.goto (-61), 3) := by decide +kernel
theorem dX0_spread_68 : decode cX0_spread 68 = .ok (.iload_n 1, 1) := by decide +kernel
theorem dX0_spread_69 : decode cX0_spread 69 = .ok (.ireturn, 1) := by decide +kernel
abbrev A0_spread (G : GG) (Q : Int32 → MM → Prop) := AW G E0 (MZ G (qI Q)) (WY yX0_spread cX0_spread 4 (some .int)) RX0 cX0_spread 4 (some .int) ({ frames := 2, cells := 0, slots := 0, locals := 42 } : Room) 0 0
def D0_spread_c56 (b : Nat) (K14 : Int32 → Int32 → Int32 → MM → Prop) (K4 : Int32 → Int32 → MM → Prop) (Q : Int32 → MM → Prop) (x1 : Int32) (x2 : Int32) (x3 : Int32) (M : MM) : Prop := (fun v10 : Int32 => K14 x1 x2 v10 M) (x3 + (1 : Int32))
def D0_spread_c62 (b : Nat) (K4 : Int32 → Int32 → MM → Prop) (Q : Int32 → MM → Prop) (x1 : Int32) (x2 : Int32) (M : MM) : Prop := (fun v9 : Int32 => K4 x1 v9 M) (x2 + (1 : Int32))
def D0_spread_c14 (b : Nat) (K4 : Int32 → Int32 → MM → Prop) (Q : Int32 → MM → Prop) : Nat → Int32 → Int32 → Int32 → MM → Prop
  | 0, _, _, _, _ => False
  | n + 1, x1, x2, x3, M => (((10 : Int32) ≤ x3 → D0_spread_c62 b K4 Q x1 x2 M) ∧ (¬ (10 : Int32) ≤ x3 → D0_stands b x2 M (fun (r2 : Int32) (M3 : MM) => ((r2 = 0 → D0_spread_c56 b (D0_spread_c14 b K4 Q n) K4 Q x1 x2 x3 M3) ∧ (¬ r2 = 0 → D0_stands b x3 M3 (fun (r4 : Int32) (M5 : MM) => ((r4 = 0 → D0_spread_c56 b (D0_spread_c14 b K4 Q n) K4 Q x1 x2 x3 M5) ∧ (¬ r4 = 0 → ib (b + 3) x2 ∧ ib (b + 3) x3 ∧ D3_steps (M5 (b + 3) (ix x2)) (M5 (b + 3) (ix x3)) M5 (fun (r6 : Int32) (M7 : MM) => (fun v8 : Int32 => D0_spread_c56 b (D0_spread_c14 b K4 Q n) K4 Q v8 x2 x3 M7) (if x1 < r6 then r6 else x1))))))))))
def D0_spread_c4 (b : Nat) (Q : Int32 → MM → Prop) : Nat → Int32 → Int32 → MM → Prop
  | 0, _, _, _ => False
  | n + 1, x1, x2, M => (((10 : Int32) ≤ x2 → Q x1 M) ∧ (¬ (10 : Int32) ≤ x2 → (fun v1 : Int32 => D0_spread_c14 b (D0_spread_c4 b Q n) Q FU x1 x2 v1 M) (x2 + (1 : Int32))))
def D0_spread (b : Nat) (M : MM) (Q : Int32 → MM → Prop) : Prop := D0_spread_c4 b Q FU (0 : Int32) (0 : Int32) M
set_option maxHeartbeats 4000000 in
set_option maxRecDepth 100000 in
theorem s0_spread_c56 {G : GG} {b : Nat} (hb : ob b 0) {K14 : Int32 → Int32 → Int32 → MM → Prop} {K4 : Int32 → Int32 → MM → Prop} {Q : Int32 → MM → Prop} (hK14 : ∀ (x1 : Int32) (x2 : Int32) (x3 : Int32) (M : MM), K14 x1 x2 x3 M → A0_spread G Q 14 [(0, .ref (gA G b)), (1, .int x1), (2, .int x2), (3, .int x3)] [] M) (hK4 : ∀ (x1 : Int32) (x2 : Int32) (M : MM), K4 x1 x2 M → A0_spread G Q 4 [(0, .ref (gA G b)), (1, .int x1), (2, .int x2)] [] M) : ∀ (x1 : Int32) (x2 : Int32) (x3 : Int32) (M : MM), D0_spread_c56 b K14 K4 Q x1 x2 x3 M → A0_spread G Q 56 [(0, .ref (gA G b)), (1, .int x1), (2, .int x2), (3, .int x3)] [] M := by
  intro x1 x2 x3 M h
  unfold D0_spread_c56 at h
  refine a_iinc (L' := [(3, .int _), (0, .ref _), (1, .int _), (2, .int _)]) dX0_spread_56 3 rfl (show _ + Int32.ofInt (1 : Int) = _ + (1 : Int32) from rfl) (by decide) rfl ?_
  refine a_goto (tgt := 14) dX0_spread_59 (by decide) ?_
  refine a_sub [1, 2, 3, 0] rfl ?_
  exact hK14 _ _ _ _ h
set_option maxHeartbeats 4000000 in
set_option maxRecDepth 100000 in
theorem s0_spread_c62 {G : GG} {b : Nat} (hb : ob b 0) {K4 : Int32 → Int32 → MM → Prop} {Q : Int32 → MM → Prop} (hK4 : ∀ (x1 : Int32) (x2 : Int32) (M : MM), K4 x1 x2 M → A0_spread G Q 4 [(0, .ref (gA G b)), (1, .int x1), (2, .int x2)] [] M) : ∀ (x1 : Int32) (x2 : Int32) (M : MM), D0_spread_c62 b K4 Q x1 x2 M → A0_spread G Q 62 [(0, .ref (gA G b)), (1, .int x1), (2, .int x2)] [] M := by
  intro x1 x2 M h
  unfold D0_spread_c62 at h
  refine a_iinc (L' := [(2, .int _), (0, .ref _), (1, .int _)]) dX0_spread_62 2 rfl (show _ + Int32.ofInt (1 : Int) = _ + (1 : Int32) from rfl) (by decide) rfl ?_
  refine a_goto (tgt := 4) dX0_spread_65 (by decide) ?_
  refine a_sub [1, 2, 0] rfl ?_
  exact hK4 _ _ _ h
set_option maxHeartbeats 4000000 in
set_option maxRecDepth 100000 in
theorem s0_spread_c14 {G : GG} {b : Nat} (hb : ob b 0) {K4 : Int32 → Int32 → MM → Prop} {Q : Int32 → MM → Prop} (hK4 : ∀ (x1 : Int32) (x2 : Int32) (M : MM), K4 x1 x2 M → A0_spread G Q 4 [(0, .ref (gA G b)), (1, .int x1), (2, .int x2)] [] M) : ∀ (n : Nat) (x1 : Int32) (x2 : Int32) (x3 : Int32) (M : MM), D0_spread_c14 b K4 Q n x1 x2 x3 M → A0_spread G Q 14 [(0, .ref (gA G b)), (1, .int x1), (2, .int x2), (3, .int x3)] [] M := by
  intro n
  induction n with
  | zero => intro x1 x2 x3 M h; exact h.elim
  | succ n ih =>
    intro x1 x2 x3 M h
    unfold D0_spread_c14 at h
    refine a_iload_n dX0_spread_14 3 rfl ?_
    refine a_bipush (v := 10) dX0_spread_15 (by decide) ?_
    refine a_icmp_ge (tgt := 62) dX0_spread_17 (by decide) (fun c => ?_) (fun c => ?_)
    · have h := h.1 c
      refine a_sub [0, 1, 2] rfl ?_
      exact s0_spread_c62 hb hK4 _ _ _ h
    · have h := h.2 c
      refine a_aload_n dX0_spread_20 0 rfl ?_
      refine a_iload_n dX0_spread_21 2 rfl ?_
      refine a_callVi (n := 1) [.int _] (C := RX0) (ci := 0) (qc := (RX0, TX0, 9)) (fsF := fl0 G _) hb.1 (fun _ => en0 hb.2) rfl rfl dX0_spread_22 (s0_stands hb h) (gV tbc kM_RX0_60_X0_stands kI_X0_stands kS_X0_stands kN_RX0 kC_X0_stands) rfl (by decide +kernel) ⟨Nat.le_of_ble_eq_true rfl, Nat.le_of_ble_eq_true rfl⟩ rfl rfl (Nat.le_of_ble_eq_true rfl) ⟨Nat.le_refl 0, Nat.le_refl 0⟩ (fun r M h => ?_)
      refine a_if_eq (tgt := 56) dX0_spread_25 (by decide) (fun c => ?_) (fun c => ?_)
      · have h := h.1 c
        refine a_sub [0, 1, 2, 3] rfl ?_
        exact s0_spread_c56 hb ih hK4 _ _ _ _ h
      · have h := h.2 c
        refine a_aload_n dX0_spread_28 0 rfl ?_
        refine a_iload_n dX0_spread_29 3 rfl ?_
        refine a_callVi (n := 1) [.int _] (C := RX0) (ci := 0) (qc := (RX0, TX0, 9)) (fsF := fl0 G _) hb.1 (fun _ => en0 hb.2) rfl rfl dX0_spread_30 (s0_stands hb h) (gV tbc kM_RX0_60_X0_stands kI_X0_stands kS_X0_stands kN_RX0 kC_X0_stands) rfl (by decide +kernel) ⟨Nat.le_of_ble_eq_true rfl, Nat.le_of_ble_eq_true rfl⟩ rfl rfl (Nat.le_of_ble_eq_true rfl) ⟨Nat.le_refl 0, Nat.le_refl 0⟩ (fun r M h => ?_)
        refine a_if_eq (tgt := 56) dX0_spread_33 (by decide) (fun c => ?_) (fun c => ?_)
        · have h := h.1 c
          refine a_sub [0, 1, 2, 3] rfl ?_
          exact s0_spread_c56 hb ih hK4 _ _ _ _ h
        · have h := h.2 c
          refine a_iload_n dX0_spread_36 1 rfl ?_
          refine a_aload_n dX0_spread_37 0 rfl ?_
          refine a_get0 dX0_spread_38 2 (by decide) (tbc _ kF_RX0_18) (fun w h => tbc _ (uW0 w h)) rfl hb rfl ?_
          refine a_iload_n dX0_spread_41 2 rfl ?_
          refine a_iald dX0_spread_42 h.1 ?_
          have h := h.2
          refine a_aload_n dX0_spread_43 0 rfl ?_
          refine a_get0 dX0_spread_44 2 (by decide) (tbc _ kF_RX0_18) (fun w h => tbc _ (uW0 w h)) rfl hb rfl ?_
          refine a_iload_n dX0_spread_47 3 rfl ?_
          refine a_iald dX0_spread_48 h.1 ?_
          have h := h.2
          refine a_callSi (n := 2) [.int _, .int _] dX0_spread_49 (s3_steps h) (gS tbc kM_RX0_124_X3_steps kT_X3_steps kN_RX3 kC_X3_steps) rfl (by decide +kernel) ⟨Nat.le_of_ble_eq_true rfl, Nat.le_of_ble_eq_true rfl⟩ rfl rfl (Nat.le_of_ble_eq_true rfl) ⟨Nat.le_refl 0, Nat.le_refl 0⟩ (fun r M h => ?_)
          refine a_mmax dX0_spread_52 (tbc _ kM_RX0_63_Lib_Math_max_name) (tbc _ kT_Lib_Math_max_name) (tbc _ kN_Math) (tbc _ kC_Lib_Math_max_name) (Nat.le_of_ble_eq_true rfl) (Nat.le_of_ble_eq_true rfl) (Nat.le_refl 0) (Nat.le_refl 0) ?_
          refine a_istore_n (i := 1) (L' := [(1, .int _), (0, .ref _), (2, .int _), (3, .int _)]) dX0_spread_55 rfl (by decide) rfl ?_
          refine a_sub [1, 0, 2, 3] rfl ?_
          exact s0_spread_c56 hb ih hK4 _ _ _ _ h
set_option maxHeartbeats 4000000 in
set_option maxRecDepth 100000 in
theorem s0_spread_c4 {G : GG} {b : Nat} (hb : ob b 0) {Q : Int32 → MM → Prop} : ∀ (n : Nat) (x1 : Int32) (x2 : Int32) (M : MM), D0_spread_c4 b Q n x1 x2 M → A0_spread G Q 4 [(0, .ref (gA G b)), (1, .int x1), (2, .int x2)] [] M := by
  intro n
  induction n with
  | zero => intro x1 x2 M h; exact h.elim
  | succ n ih =>
    intro x1 x2 M h
    unfold D0_spread_c4 at h
    refine a_iload_n dX0_spread_4 2 rfl ?_
    refine a_bipush (v := 10) dX0_spread_5 (by decide) ?_
    refine a_icmp_ge (tgt := 68) dX0_spread_7 (by decide) (fun c => ?_) (fun c => ?_)
    · have h := h.1 c
      refine a_iload_n dX0_spread_68 1 rfl ?_
      exact a_iret dX0_spread_69 ⟨_, rfl, h⟩
    · have h := h.2 c
      refine a_iload_n dX0_spread_10 2 rfl ?_
      refine a_iconst (v := 1) dX0_spread_11 (by decide) ?_
      refine a_iadd dX0_spread_12 ?_
      refine a_istore_n (i := 3) (L' := [(3, .int _), (0, .ref _), (1, .int _), (2, .int _)]) dX0_spread_13 rfl (by decide) rfl ?_
      refine a_sub [1, 2, 3, 0] rfl ?_
      exact s0_spread_c14 hb ih _ _ _ _ _ h
set_option maxHeartbeats 4000000 in
set_option maxRecDepth 100000 in
theorem s0_spread {G : GG} {b : Nat} (hb : ob b 0) {M : MM} {Q : Int32 → MM → Prop} (h : D0_spread b M Q) : CM G yX0_spread (WY yX0_spread cX0_spread 4 (some .int)) 2 42 [.ref (gA G b)] M (qI Q) := by
  refine CM.of (cc := cX0_spread) (nL := 4) (ret := (some .int)) (own := RX0) (by decide +kernel) rfl rfl (Nat.le_of_ble_eq_true rfl) ?_
  show A0_spread G Q 0 [(0, .ref (gA G b))] [] M
  unfold D0_spread at h
  refine a_iconst (v := 0) dX0_spread_0 (by decide) ?_
  refine a_istore_n (i := 1) (L' := [(1, .int _), (0, .ref _)]) dX0_spread_1 rfl (by decide) rfl ?_
  refine a_iconst (v := 0) dX0_spread_2 (by decide) ?_
  refine a_istore_n (i := 2) (L' := [(2, .int _), (1, .int _), (0, .ref _)]) dX0_spread_3 rfl (by decide) rfl ?_
  refine a_sub [2, 1, 0] rfl ?_
  exact s0_spread_c4 hb _ _ _ _ h

/-! X0_standingOf -/
theorem dX0_standingOf_0 : decode cX0_standingOf 0 = .ok (.iconst 0, 1) := by decide +kernel
theorem dX0_standingOf_1 : decode cX0_standingOf 1 = .ok (.istore_n 2, 1) := by decide +kernel
theorem dX0_standingOf_2 : decode cX0_standingOf 2 = .ok (.iconst 0, 1) := by decide +kernel
theorem dX0_standingOf_3 : decode cX0_standingOf 3 = .ok (.istore_n 3, 1) := by decide +kernel
theorem dX0_standingOf_4 : decode cX0_standingOf 4 = .ok (.iload_n 3, 1) := by decide +kernel
theorem dX0_standingOf_5 : decode cX0_standingOf 5 = .ok (.bipush 10, 2) := by decide +kernel
theorem dX0_standingOf_7 : decode cX0_standingOf 7 = .ok (.if_icmp .ge 30, 3) := by decide +kernel
theorem dX0_standingOf_10 : decode cX0_standingOf 10 = .ok (.aload_n 0, 1) := by decide +kernel
theorem dX0_standingOf_11 : decode cX0_standingOf 11 = .ok (.iload_n 3, 1) := by decide +kernel
theorem dX0_standingOf_12 : decode cX0_standingOf 12 = .ok (.invokevirtual 60, 3) := by decide +kernel
theorem dX0_standingOf_15 : decode cX0_standingOf 15 = .ok (.ifCond .eq 16, 3) := by decide +kernel
theorem dX0_standingOf_18 : decode cX0_standingOf 18 = .ok (.aload_n 0, 1) := by decide +kernel
theorem dX0_standingOf_19 : decode cX0_standingOf 19 = .ok (.getfield 11, 3) := by decide +kernel
theorem dX0_standingOf_22 : decode cX0_standingOf 22 = .ok (.iload_n 3, 1) := by decide +kernel
theorem dX0_standingOf_23 : decode cX0_standingOf 23 = .ok (.iaload, 1) := by decide +kernel
theorem dX0_standingOf_24 : decode cX0_standingOf 24 = .ok (.iload_n 1, 1) := by decide +kernel
theorem dX0_standingOf_25 : decode cX0_standingOf 25 = .ok (.if_icmp .ne 6, 3) := by decide +kernel
theorem dX0_standingOf_28 : decode cX0_standingOf 28 = .ok (.iinc 2 1, 3) := by decide +kernel
theorem dX0_standingOf_31 : decode cX0_standingOf 31 = .ok (.iinc 3 1, 3) := by decide +kernel
theorem dX0_standingOf_34 : decode cX0_standingOf 34 = .ok (.goto (-30), 3) := by decide +kernel
theorem dX0_standingOf_37 : decode cX0_standingOf 37 = .ok (.iload_n 2, 1) := by decide +kernel
theorem dX0_standingOf_38 : decode cX0_standingOf 38 = .ok (.ireturn, 1) := by decide +kernel
abbrev A0_standingOf (G : GG) (Q : Int32 → MM → Prop) := AW G E0 (MZ G (qI Q)) (WY yX0_standingOf cX0_standingOf 4 (some .int)) RX0 cX0_standingOf 4 (some .int) ({ frames := 1, cells := 0, slots := 0, locals := 21 } : Room) 0 0
def D0_standingOf_c31 (b : Nat) (K4 : Int32 → Int32 → Int32 → MM → Prop) (Q : Int32 → MM → Prop) (x1 : Int32) (x2 : Int32) (x3 : Int32) (M : MM) : Prop := (fun v4 : Int32 => K4 x1 x2 v4 M) (x3 + (1 : Int32))
def D0_standingOf_c4 (b : Nat) (Q : Int32 → MM → Prop) : Nat → Int32 → Int32 → Int32 → MM → Prop
  | 0, _, _, _, _ => False
  | n + 1, x1, x2, x3, M => (((10 : Int32) ≤ x3 → Q x2 M) ∧ (¬ (10 : Int32) ≤ x3 → D0_stands b x3 M (fun (r1 : Int32) (M2 : MM) => ((r1 = 0 → D0_standingOf_c31 b (D0_standingOf_c4 b Q n) Q x1 x2 x3 M2) ∧ (¬ r1 = 0 → ib (b + 1) x3 ∧ (((M2 (b + 1) (ix x3)) ≠ x1 → D0_standingOf_c31 b (D0_standingOf_c4 b Q n) Q x1 x2 x3 M2) ∧ ((M2 (b + 1) (ix x3)) = x1 → (fun v3 : Int32 => D0_standingOf_c31 b (D0_standingOf_c4 b Q n) Q x1 v3 x3 M2) (x2 + (1 : Int32)))))))))
def D0_standingOf (b : Nat) (x1 : Int32) (M : MM) (Q : Int32 → MM → Prop) : Prop := D0_standingOf_c4 b Q FU x1 (0 : Int32) (0 : Int32) M
set_option maxHeartbeats 4000000 in
set_option maxRecDepth 100000 in
theorem s0_standingOf_c31 {G : GG} {b : Nat} (hb : ob b 0) {K4 : Int32 → Int32 → Int32 → MM → Prop} {Q : Int32 → MM → Prop} (hK4 : ∀ (x1 : Int32) (x2 : Int32) (x3 : Int32) (M : MM), K4 x1 x2 x3 M → A0_standingOf G Q 4 [(0, .ref (gA G b)), (1, .int x1), (2, .int x2), (3, .int x3)] [] M) : ∀ (x1 : Int32) (x2 : Int32) (x3 : Int32) (M : MM), D0_standingOf_c31 b K4 Q x1 x2 x3 M → A0_standingOf G Q 31 [(0, .ref (gA G b)), (1, .int x1), (2, .int x2), (3, .int x3)] [] M := by
  intro x1 x2 x3 M h
  unfold D0_standingOf_c31 at h
  refine a_iinc (L' := [(3, .int _), (0, .ref _), (1, .int _), (2, .int _)]) dX0_standingOf_31 3 rfl (show _ + Int32.ofInt (1 : Int) = _ + (1 : Int32) from rfl) (by decide) rfl ?_
  refine a_goto (tgt := 4) dX0_standingOf_34 (by decide) ?_
  refine a_sub [1, 2, 3, 0] rfl ?_
  exact hK4 _ _ _ _ h
set_option maxHeartbeats 4000000 in
set_option maxRecDepth 100000 in
theorem s0_standingOf_c4 {G : GG} {b : Nat} (hb : ob b 0) {Q : Int32 → MM → Prop} : ∀ (n : Nat) (x1 : Int32) (x2 : Int32) (x3 : Int32) (M : MM), D0_standingOf_c4 b Q n x1 x2 x3 M → A0_standingOf G Q 4 [(0, .ref (gA G b)), (1, .int x1), (2, .int x2), (3, .int x3)] [] M := by
  intro n
  induction n with
  | zero => intro x1 x2 x3 M h; exact h.elim
  | succ n ih =>
    intro x1 x2 x3 M h
    unfold D0_standingOf_c4 at h
    refine a_iload_n dX0_standingOf_4 3 rfl ?_
    refine a_bipush (v := 10) dX0_standingOf_5 (by decide) ?_
    refine a_icmp_ge (tgt := 37) dX0_standingOf_7 (by decide) (fun c => ?_) (fun c => ?_)
    · have h := h.1 c
      refine a_iload_n dX0_standingOf_37 2 rfl ?_
      exact a_iret dX0_standingOf_38 ⟨_, rfl, h⟩
    · have h := h.2 c
      refine a_aload_n dX0_standingOf_10 0 rfl ?_
      refine a_iload_n dX0_standingOf_11 3 rfl ?_
      refine a_callVi (n := 1) [.int _] (C := RX0) (ci := 0) (qc := (RX0, TX0, 9)) (fsF := fl0 G _) hb.1 (fun _ => en0 hb.2) rfl rfl dX0_standingOf_12 (s0_stands hb h) (gV tbc kM_RX0_60_X0_stands kI_X0_stands kS_X0_stands kN_RX0 kC_X0_stands) rfl (by decide +kernel) ⟨Nat.le_of_ble_eq_true rfl, Nat.le_of_ble_eq_true rfl⟩ rfl rfl (Nat.le_of_ble_eq_true rfl) ⟨Nat.le_refl 0, Nat.le_refl 0⟩ (fun r M h => ?_)
      refine a_if_eq (tgt := 31) dX0_standingOf_15 (by decide) (fun c => ?_) (fun c => ?_)
      · have h := h.1 c
        refine a_sub [0, 1, 2, 3] rfl ?_
        exact s0_standingOf_c31 hb ih _ _ _ _ h
      · have h := h.2 c
        refine a_aload_n dX0_standingOf_18 0 rfl ?_
        refine a_get0 dX0_standingOf_19 0 (by decide) (tbc _ kF_RX0_11) (fun w h => tbc _ (uW0 w h)) rfl hb rfl ?_
        refine a_iload_n dX0_standingOf_22 3 rfl ?_
        refine a_iald dX0_standingOf_23 h.1 ?_
        have h := h.2
        refine a_iload_n dX0_standingOf_24 1 rfl ?_
        refine a_icmp_ne (tgt := 31) dX0_standingOf_25 (by decide) (fun c => ?_) (fun c => ?_)
        · have h := h.1 c
          refine a_sub [0, 1, 2, 3] rfl ?_
          exact s0_standingOf_c31 hb ih _ _ _ _ h
        · have h := h.2 c
          refine a_iinc (L' := [(2, .int _), (0, .ref _), (1, .int _), (3, .int _)]) dX0_standingOf_28 2 rfl (show _ + Int32.ofInt (1 : Int) = _ + (1 : Int32) from rfl) (by decide) rfl ?_
          refine a_sub [1, 2, 0, 3] rfl ?_
          exact s0_standingOf_c31 hb ih _ _ _ _ h
set_option maxHeartbeats 4000000 in
set_option maxRecDepth 100000 in
theorem s0_standingOf {G : GG} {b : Nat} (hb : ob b 0) {x1 : Int32} {M : MM} {Q : Int32 → MM → Prop} (h : D0_standingOf b x1 M Q) : CM G yX0_standingOf (WY yX0_standingOf cX0_standingOf 4 (some .int)) 1 21 [.ref (gA G b), .int x1] M (qI Q) := by
  refine CM.of (cc := cX0_standingOf) (nL := 4) (ret := (some .int)) (own := RX0) (by decide +kernel) rfl rfl (Nat.le_of_ble_eq_true rfl) ?_
  show A0_standingOf G Q 0 [(0, .ref (gA G b)), (1, .int x1)] [] M
  unfold D0_standingOf at h
  refine a_iconst (v := 0) dX0_standingOf_0 (by decide) ?_
  refine a_istore_n (i := 2) (L' := [(2, .int _), (0, .ref _), (1, .int _)]) dX0_standingOf_1 rfl (by decide) rfl ?_
  refine a_iconst (v := 0) dX0_standingOf_2 (by decide) ?_
  refine a_istore_n (i := 3) (L' := [(3, .int _), (2, .int _), (0, .ref _), (1, .int _)]) dX0_standingOf_3 rfl (by decide) rfl ?_
  refine a_sub [2, 3, 1, 0] rfl ?_
  exact s0_standingOf_c4 hb _ _ _ _ _ h

/-! X0_standingWorks -/
theorem dX0_standingWorks_0 : decode cX0_standingWorks 0 = .ok (.aload_n 0, 1) := by decide +kernel
theorem dX0_standingWorks_1 : decode cX0_standingWorks 1 = .ok (.getfield 28, 3) := by decide +kernel
theorem dX0_standingWorks_4 : decode cX0_standingWorks 4 = .ok (.invokestatic 100, 3) := by decide +kernel
theorem dX0_standingWorks_7 : decode cX0_standingWorks 7 = .ok (.ireturn, 1) := by decide +kernel
abbrev A0_standingWorks (G : GG) (Q : Int32 → MM → Prop) := AW G E0 (MZ G (qI Q)) (WY yX0_standingWorks cX0_standingWorks 1 (some .int)) RX0 cX0_standingWorks 1 (some .int) ({ frames := 1, cells := 0, slots := 0, locals := 20 } : Room) 0 0
def D0_standingWorks (b : Nat) (M : MM) (Q : Int32 → MM → Prop) : Prop := DJ6_bitCount (M b 5) M (fun (r1 : Int32) (M2 : MM) => Q r1 M2)
set_option maxHeartbeats 4000000 in
set_option maxRecDepth 100000 in
theorem s0_standingWorks {G : GG} {b : Nat} (hb : ob b 0) {M : MM} {Q : Int32 → MM → Prop} (h : D0_standingWorks b M Q) : CM G yX0_standingWorks (WY yX0_standingWorks cX0_standingWorks 1 (some .int)) 1 20 [.ref (gA G b)] M (qI Q) := by
  refine CM.of (cc := cX0_standingWorks) (nL := 1) (ret := (some .int)) (own := RX0) (by decide +kernel) rfl rfl (Nat.le_of_ble_eq_true rfl) ?_
  show A0_standingWorks G Q 0 [(0, .ref (gA G b))] [] M
  unfold D0_standingWorks at h
  refine a_aload_n dX0_standingWorks_0 0 rfl ?_
  refine a_get0 dX0_standingWorks_1 5 (by decide) (tbc _ kF_RX0_28) (fun w h => tbc _ (uW0 w h)) rfl hb rfl ?_
  refine a_callSi (n := 1) [.int _] dX0_standingWorks_4 (sJ6_bitCount h) (gS tbc kM_RX0_100_J6_bitCount_0f7a4 kT_J6_bitCount_0f7a4 kN_RJ6 kC_J6_bitCount_0f7a4) rfl (by decide +kernel) ⟨Nat.le_of_ble_eq_true rfl, Nat.le_of_ble_eq_true rfl⟩ rfl rfl (Nat.le_of_ble_eq_true rfl) ⟨Nat.le_refl 0, Nat.le_refl 0⟩ (fun r M h => ?_)
  exact a_iret dX0_standingWorks_7 ⟨_, rfl, h⟩

/-! X0_takesFor -/
theorem dX0_takesFor_0 : decode cX0_takesFor 0 = .ok (.aload_n 0, 1) := by decide +kernel
theorem dX0_takesFor_1 : decode cX0_takesFor 1 = .ok (.iload_n 1, 1) := by decide +kernel
theorem dX0_takesFor_2 : decode cX0_takesFor 2 = .ok (.invokevirtual 40, 3) := by decide +kernel
theorem dX0_takesFor_5 : decode cX0_takesFor 5 = .ok (.ifCond .eq 17, 3) := by decide +kernel
theorem dX0_takesFor_8 : decode cX0_takesFor 8 = .ok (.aload_n 0, 1) := by decide +kernel
theorem dX0_takesFor_9 : decode cX0_takesFor 9 = .ok (.getfield 11, 3) := by decide +kernel
theorem dX0_takesFor_12 : decode cX0_takesFor 12 = .ok (.iload_n 1, 1) := by decide +kernel
theorem dX0_takesFor_13 : decode cX0_takesFor 13 = .ok (.iload_n 2, 1) := by decide +kernel
theorem dX0_takesFor_14 : decode cX0_takesFor 14 = .ok (.iastore, 1) := by decide +kernel
theorem dX0_takesFor_15 : decode cX0_takesFor 15 = .ok (.aload_n 0, 1) := by decide +kernel
theorem dX0_takesFor_16 : decode cX0_takesFor 16 = .ok (.getfield 15, 3) := by decide +kernel
theorem dX0_takesFor_19 : decode cX0_takesFor 19 = .ok (.iload_n 1, 1) := by decide +kernel
theorem dX0_takesFor_20 : decode cX0_takesFor 20 = .ok (.iload_n 3, 1) := by decide +kernel
theorem dX0_takesFor_21 : decode cX0_takesFor 21 = .ok (.iastore, 1) := by decide +kernel
theorem dX0_takesFor_22 : decode cX0_takesFor 22 = .ok (.return_, 1) := by decide +kernel
abbrev A0_takesFor (G : GG) (Q : MM → Prop) := AW G E0 (MZ G (qV Q)) (WY yX0_takesFor cX0_takesFor 4 none) RX0 cX0_takesFor 4 none ({ frames := 1, cells := 0, slots := 0, locals := 21 } : Room) 0 0
def D0_takesFor (b : Nat) (x1 : Int32) (x2 : Int32) (x3 : Int32) (M : MM) (Q : MM → Prop) : Prop := D0_knows b x1 M (fun (r1 : Int32) (M2 : MM) => ((r1 = 0 → Q M2) ∧ (¬ r1 = 0 → ib (b + 1) x1 ∧ (fun M3 : MM => ib (b + 2) x1 ∧ (fun M4 : MM => Q M4) (up M3 (b + 2) (ix x1) x3)) (up M2 (b + 1) (ix x1) x2))))
set_option maxHeartbeats 4000000 in
set_option maxRecDepth 100000 in
theorem s0_takesFor {G : GG} {b : Nat} (hb : ob b 0) {x1 : Int32} {x2 : Int32} {x3 : Int32} {M : MM} {Q : MM → Prop} (h : D0_takesFor b x1 x2 x3 M Q) : CM G yX0_takesFor (WY yX0_takesFor cX0_takesFor 4 none) 1 21 [.ref (gA G b), .int x1, .int x2, .int x3] M (qV Q) := by
  refine CM.of (cc := cX0_takesFor) (nL := 4) (ret := none) (own := RX0) (by decide +kernel) rfl rfl (Nat.le_of_ble_eq_true rfl) ?_
  show A0_takesFor G Q 0 [(0, .ref (gA G b)), (1, .int x1), (2, .int x2), (3, .int x3)] [] M
  unfold D0_takesFor at h
  refine a_aload_n dX0_takesFor_0 0 rfl ?_
  refine a_iload_n dX0_takesFor_1 1 rfl ?_
  refine a_callVi (n := 1) [.int _] (C := RX0) (ci := 0) (qc := (RX0, TX0, 9)) (fsF := fl0 G _) hb.1 (fun _ => en0 hb.2) rfl rfl dX0_takesFor_2 (s0_knows hb h) (gV tbc kM_RX0_40_X0_knows kI_X0_knows kS_X0_knows kN_RX0 kC_X0_knows) rfl (by decide +kernel) ⟨Nat.le_of_ble_eq_true rfl, Nat.le_of_ble_eq_true rfl⟩ rfl rfl (Nat.le_of_ble_eq_true rfl) ⟨Nat.le_refl 0, Nat.le_refl 0⟩ (fun r M h => ?_)
  refine a_if_eq (tgt := 22) dX0_takesFor_5 (by decide) (fun c => ?_) (fun c => ?_)
  · have h := h.1 c
    exact a_vret dX0_takesFor_22 ⟨rfl, h⟩
  · have h := h.2 c
    refine a_aload_n dX0_takesFor_8 0 rfl ?_
    refine a_get0 dX0_takesFor_9 0 (by decide) (tbc _ kF_RX0_11) (fun w h => tbc _ (uW0 w h)) rfl hb rfl ?_
    refine a_iload_n dX0_takesFor_12 1 rfl ?_
    refine a_iload_n dX0_takesFor_13 2 rfl ?_
    refine a_iast dX0_takesFor_14 h.1 ?_
    have h := h.2
    refine a_aload_n dX0_takesFor_15 0 rfl ?_
    refine a_get0 dX0_takesFor_16 1 (by decide) (tbc _ kF_RX0_15) (fun w h => tbc _ (uW0 w h)) rfl hb rfl ?_
    refine a_iload_n dX0_takesFor_19 1 rfl ?_
    refine a_iload_n dX0_takesFor_20 3 rfl ?_
    refine a_iast dX0_takesFor_21 h.1 ?_
    have h := h.2
    exact a_vret dX0_takesFor_22 ⟨rfl, h⟩

/-! X0_wears -/
theorem dX0_wears_0 : decode cX0_wears 0 = .ok (.aload_n 0, 1) := by decide +kernel
theorem dX0_wears_1 : decode cX0_wears 1 = .ok (.iload_n 1, 1) := by decide +kernel
theorem dX0_wears_2 : decode cX0_wears 2 = .ok (.invokevirtual 40, 3) := by decide +kernel
theorem dX0_wears_5 : decode cX0_wears 5 = .ok (.ifCond .eq 10, 3) := by decide +kernel
theorem dX0_wears_8 : decode cX0_wears 8 = .ok (.aload_n 0, 1) := by decide +kernel
theorem dX0_wears_9 : decode cX0_wears 9 = .ok (.getfield 21, 3) := by decide +kernel
theorem dX0_wears_12 : decode cX0_wears 12 = .ok (.iload_n 1, 1) := by decide +kernel
theorem dX0_wears_13 : decode cX0_wears 13 = .ok (.iload_n 2, 1) := by decide +kernel
theorem dX0_wears_14 : decode cX0_wears 14 = .ok (.iastore, 1) := by decide +kernel
theorem dX0_wears_15 : decode cX0_wears 15 = .ok (.return_, 1) := by decide +kernel
abbrev A0_wears (G : GG) (Q : MM → Prop) := AW G E0 (MZ G (qV Q)) (WY yX0_wears cX0_wears 3 none) RX0 cX0_wears 3 none ({ frames := 1, cells := 0, slots := 0, locals := 21 } : Room) 0 0
def D0_wears (b : Nat) (x1 : Int32) (x2 : Int32) (M : MM) (Q : MM → Prop) : Prop := D0_knows b x1 M (fun (r1 : Int32) (M2 : MM) => ((r1 = 0 → Q M2) ∧ (¬ r1 = 0 → ib (b + 4) x1 ∧ (fun M3 : MM => Q M3) (up M2 (b + 4) (ix x1) x2))))
set_option maxHeartbeats 4000000 in
set_option maxRecDepth 100000 in
theorem s0_wears {G : GG} {b : Nat} (hb : ob b 0) {x1 : Int32} {x2 : Int32} {M : MM} {Q : MM → Prop} (h : D0_wears b x1 x2 M Q) : CM G yX0_wears (WY yX0_wears cX0_wears 3 none) 1 21 [.ref (gA G b), .int x1, .int x2] M (qV Q) := by
  refine CM.of (cc := cX0_wears) (nL := 3) (ret := none) (own := RX0) (by decide +kernel) rfl rfl (Nat.le_of_ble_eq_true rfl) ?_
  show A0_wears G Q 0 [(0, .ref (gA G b)), (1, .int x1), (2, .int x2)] [] M
  unfold D0_wears at h
  refine a_aload_n dX0_wears_0 0 rfl ?_
  refine a_iload_n dX0_wears_1 1 rfl ?_
  refine a_callVi (n := 1) [.int _] (C := RX0) (ci := 0) (qc := (RX0, TX0, 9)) (fsF := fl0 G _) hb.1 (fun _ => en0 hb.2) rfl rfl dX0_wears_2 (s0_knows hb h) (gV tbc kM_RX0_40_X0_knows kI_X0_knows kS_X0_knows kN_RX0 kC_X0_knows) rfl (by decide +kernel) ⟨Nat.le_of_ble_eq_true rfl, Nat.le_of_ble_eq_true rfl⟩ rfl rfl (Nat.le_of_ble_eq_true rfl) ⟨Nat.le_refl 0, Nat.le_refl 0⟩ (fun r M h => ?_)
  refine a_if_eq (tgt := 15) dX0_wears_5 (by decide) (fun c => ?_) (fun c => ?_)
  · have h := h.1 c
    exact a_vret dX0_wears_15 ⟨rfl, h⟩
  · have h := h.2 c
    refine a_aload_n dX0_wears_8 0 rfl ?_
    refine a_get0 dX0_wears_9 3 (by decide) (tbc _ kF_RX0_21) (fun w h => tbc _ (uW0 w h)) rfl hb rfl ?_
    refine a_iload_n dX0_wears_12 1 rfl ?_
    refine a_iload_n dX0_wears_13 2 rfl ?_
    refine a_iast dX0_wears_14 h.1 ?_
    have h := h.2
    exact a_vret dX0_wears_15 ⟨rfl, h⟩

/-! X0_wetNow -/
theorem dX0_wetNow_0 : decode cX0_wetNow 0 = .ok (.aload_n 0, 1) := by decide +kernel
theorem dX0_wetNow_1 : decode cX0_wetNow 1 = .ok (.aload_n 0, 1) := by decide +kernel
theorem dX0_wetNow_2 : decode cX0_wetNow 2 = .ok (.getfield 31, 3) := by decide +kernel
theorem dX0_wetNow_5 : decode cX0_wetNow 5 = .ok (.invokestatic 74, 3) := by decide +kernel
theorem dX0_wetNow_8 : decode cX0_wetNow 8 = .ok (.invokevirtual 80, 3) := by decide +kernel
theorem dX0_wetNow_11 : decode cX0_wetNow 11 = .ok (.ireturn, 1) := by decide +kernel
abbrev A0_wetNow (G : GG) (Q : Int32 → MM → Prop) := AW G E0 (MZ G (qI Q)) (WY yX0_wetNow cX0_wetNow 1 (some .int)) RX0 cX0_wetNow 1 (some .int) ({ frames := 2, cells := 0, slots := 0, locals := 46 } : Room) 0 0
def D0_wetNow (b : Nat) (M : MM) (Q : Int32 → MM → Prop) : Prop := D3_height (M b 6) M (fun (r1 : Int32) (M2 : MM) => D0_wetAt b r1 M2 (fun (r3 : Int32) (M4 : MM) => Q r3 M4))
set_option maxHeartbeats 4000000 in
set_option maxRecDepth 100000 in
theorem s0_wetNow {G : GG} {b : Nat} (hb : ob b 0) {M : MM} {Q : Int32 → MM → Prop} (h : D0_wetNow b M Q) : CM G yX0_wetNow (WY yX0_wetNow cX0_wetNow 1 (some .int)) 2 46 [.ref (gA G b)] M (qI Q) := by
  refine CM.of (cc := cX0_wetNow) (nL := 1) (ret := (some .int)) (own := RX0) (by decide +kernel) rfl rfl (Nat.le_of_ble_eq_true rfl) ?_
  show A0_wetNow G Q 0 [(0, .ref (gA G b))] [] M
  unfold D0_wetNow at h
  refine a_aload_n dX0_wetNow_0 0 rfl ?_
  refine a_aload_n dX0_wetNow_1 0 rfl ?_
  refine a_get0 dX0_wetNow_2 6 (by decide) (tbc _ kF_RX0_31) (fun w h => tbc _ (uW0 w h)) rfl hb rfl ?_
  refine a_callSi (n := 1) [.int _] dX0_wetNow_5 (s3_height h) (gS tbc kM_RX0_74_X3_height kT_X3_height kN_RX3 kC_X3_height) rfl (by decide +kernel) ⟨Nat.le_of_ble_eq_true rfl, Nat.le_of_ble_eq_true rfl⟩ rfl rfl (Nat.le_of_ble_eq_true rfl) ⟨Nat.le_refl 0, Nat.le_refl 0⟩ (fun r M h => ?_)
  refine a_callVi (n := 1) [.int _] (C := RX0) (ci := 0) (qc := (RX0, TX0, 9)) (fsF := fl0 G _) hb.1 (fun _ => en0 hb.2) rfl rfl dX0_wetNow_8 (s0_wetAt hb h) (gV tbc kM_RX0_80_X0_wetAt kI_X0_wetAt kS_X0_wetAt kN_RX0 kC_X0_wetAt) rfl (by decide +kernel) ⟨Nat.le_of_ble_eq_true rfl, Nat.le_of_ble_eq_true rfl⟩ rfl rfl (Nat.le_of_ble_eq_true rfl) ⟨Nat.le_refl 0, Nat.le_refl 0⟩ (fun r M h => ?_)
  exact a_iret dX0_wetNow_11 ⟨_, rfl, h⟩

/-! X0_workIn -/
theorem dX0_workIn_0 : decode cX0_workIn 0 = .ok (.iconst 0, 1) := by decide +kernel
theorem dX0_workIn_1 : decode cX0_workIn 1 = .ok (.istore_n 2, 1) := by decide +kernel
theorem dX0_workIn_2 : decode cX0_workIn 2 = .ok (.iload_n 2, 1) := by decide +kernel
theorem dX0_workIn_3 : decode cX0_workIn 3 = .ok (.bipush 10, 2) := by decide +kernel
theorem dX0_workIn_5 : decode cX0_workIn 5 = .ok (.if_icmp .ge 29, 3) := by decide +kernel
theorem dX0_workIn_8 : decode cX0_workIn 8 = .ok (.aload_n 0, 1) := by decide +kernel
theorem dX0_workIn_9 : decode cX0_workIn 9 = .ok (.iload_n 2, 1) := by decide +kernel
theorem dX0_workIn_10 : decode cX0_workIn 10 = .ok (.invokevirtual 60, 3) := by decide +kernel
theorem dX0_workIn_13 : decode cX0_workIn 13 = .ok (.ifCond .eq 15, 3) := by decide +kernel
theorem dX0_workIn_16 : decode cX0_workIn 16 = .ok (.aload_n 0, 1) := by decide +kernel
theorem dX0_workIn_17 : decode cX0_workIn 17 = .ok (.getfield 18, 3) := by decide +kernel
theorem dX0_workIn_20 : decode cX0_workIn 20 = .ok (.iload_n 2, 1) := by decide +kernel
theorem dX0_workIn_21 : decode cX0_workIn 21 = .ok (.iaload, 1) := by decide +kernel
theorem dX0_workIn_22 : decode cX0_workIn 22 = .ok (.iload_n 1, 1) := by decide +kernel
theorem dX0_workIn_23 : decode cX0_workIn 23 = .ok (.if_icmp .ne 5, 3) := by decide +kernel
theorem dX0_workIn_26 : decode cX0_workIn 26 = .ok (.iload_n 2, 1) := by decide +kernel
theorem dX0_workIn_27 : decode cX0_workIn 27 = .ok (.ireturn, 1) := by decide +kernel
theorem dX0_workIn_28 : decode cX0_workIn 28 = .ok (.iinc 2 1, 3) := by decide +kernel
theorem dX0_workIn_31 : decode cX0_workIn 31 = .ok (.goto (-29), 3) := by decide +kernel
theorem dX0_workIn_34 : decode cX0_workIn 34 = .ok (.bipush (-9), 2) := by decide +kernel
theorem dX0_workIn_36 : decode cX0_workIn 36 = .ok (.ireturn, 1) := by decide +kernel
abbrev A0_workIn (G : GG) (Q : Int32 → MM → Prop) := AW G E0 (MZ G (qI Q)) (WY yX0_workIn cX0_workIn 3 (some .int)) RX0 cX0_workIn 3 (some .int) ({ frames := 1, cells := 0, slots := 0, locals := 21 } : Room) 0 0
def D0_workIn_c28 (b : Nat) (K2 : Int32 → Int32 → MM → Prop) (Q : Int32 → MM → Prop) (x1 : Int32) (x2 : Int32) (M : MM) : Prop := (fun v3 : Int32 => K2 x1 v3 M) (x2 + (1 : Int32))
def D0_workIn_c2 (b : Nat) (Q : Int32 → MM → Prop) : Nat → Int32 → Int32 → MM → Prop
  | 0, _, _, _ => False
  | n + 1, x1, x2, M => (((10 : Int32) ≤ x2 → Q (-9 : Int32) M) ∧ (¬ (10 : Int32) ≤ x2 → D0_stands b x2 M (fun (r1 : Int32) (M2 : MM) => ((r1 = 0 → D0_workIn_c28 b (D0_workIn_c2 b Q n) Q x1 x2 M2) ∧ (¬ r1 = 0 → ib (b + 3) x2 ∧ (((M2 (b + 3) (ix x2)) ≠ x1 → D0_workIn_c28 b (D0_workIn_c2 b Q n) Q x1 x2 M2) ∧ ((M2 (b + 3) (ix x2)) = x1 → Q x2 M2)))))))
def D0_workIn (b : Nat) (x1 : Int32) (M : MM) (Q : Int32 → MM → Prop) : Prop := D0_workIn_c2 b Q FU x1 (0 : Int32) M
set_option maxHeartbeats 4000000 in
set_option maxRecDepth 100000 in
theorem s0_workIn_c28 {G : GG} {b : Nat} (hb : ob b 0) {K2 : Int32 → Int32 → MM → Prop} {Q : Int32 → MM → Prop} (hK2 : ∀ (x1 : Int32) (x2 : Int32) (M : MM), K2 x1 x2 M → A0_workIn G Q 2 [(0, .ref (gA G b)), (1, .int x1), (2, .int x2)] [] M) : ∀ (x1 : Int32) (x2 : Int32) (M : MM), D0_workIn_c28 b K2 Q x1 x2 M → A0_workIn G Q 28 [(0, .ref (gA G b)), (1, .int x1), (2, .int x2)] [] M := by
  intro x1 x2 M h
  unfold D0_workIn_c28 at h
  refine a_iinc (L' := [(2, .int _), (0, .ref _), (1, .int _)]) dX0_workIn_28 2 rfl (show _ + Int32.ofInt (1 : Int) = _ + (1 : Int32) from rfl) (by decide) rfl ?_
  refine a_goto (tgt := 2) dX0_workIn_31 (by decide) ?_
  refine a_sub [1, 2, 0] rfl ?_
  exact hK2 _ _ _ h
set_option maxHeartbeats 4000000 in
set_option maxRecDepth 100000 in
theorem s0_workIn_c2 {G : GG} {b : Nat} (hb : ob b 0) {Q : Int32 → MM → Prop} : ∀ (n : Nat) (x1 : Int32) (x2 : Int32) (M : MM), D0_workIn_c2 b Q n x1 x2 M → A0_workIn G Q 2 [(0, .ref (gA G b)), (1, .int x1), (2, .int x2)] [] M := by
  intro n
  induction n with
  | zero => intro x1 x2 M h; exact h.elim
  | succ n ih =>
    intro x1 x2 M h
    unfold D0_workIn_c2 at h
    refine a_iload_n dX0_workIn_2 2 rfl ?_
    refine a_bipush (v := 10) dX0_workIn_3 (by decide) ?_
    refine a_icmp_ge (tgt := 34) dX0_workIn_5 (by decide) (fun c => ?_) (fun c => ?_)
    · have h := h.1 c
      refine a_bipush (v := -9) dX0_workIn_34 (by decide) ?_
      exact a_iret dX0_workIn_36 ⟨_, rfl, h⟩
    · have h := h.2 c
      refine a_aload_n dX0_workIn_8 0 rfl ?_
      refine a_iload_n dX0_workIn_9 2 rfl ?_
      refine a_callVi (n := 1) [.int _] (C := RX0) (ci := 0) (qc := (RX0, TX0, 9)) (fsF := fl0 G _) hb.1 (fun _ => en0 hb.2) rfl rfl dX0_workIn_10 (s0_stands hb h) (gV tbc kM_RX0_60_X0_stands kI_X0_stands kS_X0_stands kN_RX0 kC_X0_stands) rfl (by decide +kernel) ⟨Nat.le_of_ble_eq_true rfl, Nat.le_of_ble_eq_true rfl⟩ rfl rfl (Nat.le_of_ble_eq_true rfl) ⟨Nat.le_refl 0, Nat.le_refl 0⟩ (fun r M h => ?_)
      refine a_if_eq (tgt := 28) dX0_workIn_13 (by decide) (fun c => ?_) (fun c => ?_)
      · have h := h.1 c
        refine a_sub [0, 1, 2] rfl ?_
        exact s0_workIn_c28 hb ih _ _ _ h
      · have h := h.2 c
        refine a_aload_n dX0_workIn_16 0 rfl ?_
        refine a_get0 dX0_workIn_17 2 (by decide) (tbc _ kF_RX0_18) (fun w h => tbc _ (uW0 w h)) rfl hb rfl ?_
        refine a_iload_n dX0_workIn_20 2 rfl ?_
        refine a_iald dX0_workIn_21 h.1 ?_
        have h := h.2
        refine a_iload_n dX0_workIn_22 1 rfl ?_
        refine a_icmp_ne (tgt := 28) dX0_workIn_23 (by decide) (fun c => ?_) (fun c => ?_)
        · have h := h.1 c
          refine a_sub [0, 1, 2] rfl ?_
          exact s0_workIn_c28 hb ih _ _ _ h
        · have h := h.2 c
          refine a_iload_n dX0_workIn_26 2 rfl ?_
          exact a_iret dX0_workIn_27 ⟨_, rfl, h⟩
set_option maxHeartbeats 4000000 in
set_option maxRecDepth 100000 in
theorem s0_workIn {G : GG} {b : Nat} (hb : ob b 0) {x1 : Int32} {M : MM} {Q : Int32 → MM → Prop} (h : D0_workIn b x1 M Q) : CM G yX0_workIn (WY yX0_workIn cX0_workIn 3 (some .int)) 1 21 [.ref (gA G b), .int x1] M (qI Q) := by
  refine CM.of (cc := cX0_workIn) (nL := 3) (ret := (some .int)) (own := RX0) (by decide +kernel) rfl rfl (Nat.le_of_ble_eq_true rfl) ?_
  show A0_workIn G Q 0 [(0, .ref (gA G b)), (1, .int x1)] [] M
  unfold D0_workIn at h
  refine a_iconst (v := 0) dX0_workIn_0 (by decide) ?_
  refine a_istore_n (i := 2) (L' := [(2, .int _), (0, .ref _), (1, .int _)]) dX0_workIn_1 rfl (by decide) rfl ?_
  refine a_sub [1, 2, 0] rfl ?_
  exact s0_workIn_c2 hb _ _ _ _ h
