/-! X5_carry -/
theorem dX5_carry_0 : decode cX5_carry 0 = .ok (.aload_n 0, 1) := by decide +kernel
theorem dX5_carry_1 : decode cX5_carry 1 = .ok (.getfield 221, 3) := by decide +kernel
theorem dX5_carry_4 : decode cX5_carry 4 = .ok (.ifCond .eq 13, 3) := by decide +kernel
theorem dX5_carry_7 : decode cX5_carry 7 = .ok (.aload_n 0, 1) := by decide +kernel
theorem dX5_carry_8 : decode cX5_carry 8 = .ok (.getfield 224, 3) := by decide +kernel
theorem dX5_carry_11 : decode cX5_carry 11 = .ok (.aload_n 0, 1) := by decide +kernel
theorem dX5_carry_12 : decode cX5_carry 12 = .ok (.getfield 227, 3) := by decide +kernel
theorem dX5_carry_15 : decode cX5_carry 15 = .ok (.iload_n 1, 1) := by decide +kernel
theorem dX5_carry_16 : decode cX5_carry 16 = .ok (.iastore, 1) := by decide +kernel
theorem dX5_carry_17 : decode cX5_carry 17 = .ok (.aload_n 0, 1) := by decide +kernel
theorem dX5_carry_18 : decode cX5_carry 18 = .ok (.dup, 1) := by decide +kernel
theorem dX5_carry_19 : decode cX5_carry 19 = .ok (.getfield 227, 3) := by decide +kernel
theorem dX5_carry_22 : decode cX5_carry 22 = .ok (.iconst 1, 1) := by decide +kernel
theorem dX5_carry_23 : decode cX5_carry 23 = .ok (.iadd, 1) := by decide +kernel
theorem dX5_carry_24 : decode cX5_carry 24 = .ok (.putfield 227, 3) := by decide +kernel
theorem dX5_carry_27 : decode cX5_carry 27 = .ok (.aload_n 0, 1) := by decide +kernel
theorem dX5_carry_28 : decode cX5_carry 28 = .ok (.getfield 224, 3) := by decide +kernel
theorem dX5_carry_31 : decode cX5_carry 31 = .ok (.aload_n 0, 1) := by decide +kernel
theorem dX5_carry_32 : decode cX5_carry 32 = .ok (.getfield 227, 3) := by decide +kernel
theorem dX5_carry_35 : decode cX5_carry 35 = .ok (.iconst 1, 1) := by decide +kernel
theorem dX5_carry_36 : decode cX5_carry 36 = .ok (.isub, 1) := by decide +kernel
theorem dX5_carry_37 : decode cX5_carry 37 = .ok (.iaload, 1) := by decide +kernel
theorem dX5_carry_38 : decode cX5_carry 38 = .ok (.ireturn, 1) := by decide +kernel
abbrev A5_carry (G : GG) (Q : Int32 → MM → Prop) := AW G E0 (MZ G (qI Q)) (WY yX5_carry cX5_carry 2 (some .int)) RX5 cX5_carry 2 (some .int) ({ frames := 0, cells := 0, slots := 0, locals := 0 } : Room) 0 0
def D5_carry_c17 (Q : Int32 → MM → Prop) (M : MM) : Prop := (fun M2 : MM => ¬ M2 62 29 = 0 ∧ ib (ix (M2 62 29)) ((M2 62 27) - (1 : Int32)) ∧ Q (M2 (ix (M2 62 29)) (ix ((M2 62 27) - (1 : Int32)))) M2) (up M 62 27 ((M 62 27) + (1 : Int32)))
def D5_carry (x1 : Int32) (M : MM) (Q : Int32 → MM → Prop) : Prop := (((M 62 28) = 0 → D5_carry_c17 Q M) ∧ (¬ (M 62 28) = 0 → ¬ M 62 29 = 0 ∧ ib (ix (M 62 29)) (M 62 27) ∧ (fun M1 : MM => D5_carry_c17 Q M1) (up M (ix (M 62 29)) (ix (M 62 27)) x1)))
set_option maxHeartbeats 4000000 in
set_option maxRecDepth 100000 in
theorem s5_carry_c17 {G : GG} {Q : Int32 → MM → Prop} : ∀  (M : MM), D5_carry_c17 Q M → A5_carry G Q 17 [(0, .ref (gA G 62))] [] M := by
  intro  M h
  unfold D5_carry_c17 at h
  refine a_aload_n dX5_carry_17 0 rfl ?_
  refine a_dup dX5_carry_18 rfl ?_
  refine a_get3 dX5_carry_19 27 (by decide) (tbc _ kF_RX5_227) (fun w h => tbc _ (uW3 w h)) rfl ob_62 rfl ?_
  refine a_iconst (v := 1) dX5_carry_22 (by decide) ?_
  refine a_iadd dX5_carry_23 ?_
  refine a_put3 dX5_carry_24 27 (by decide) (tbc _ kF_RX5_227) (fun w h => tbc _ (uW3 w h)) rfl rfl rfl rfl ob_62 fs3_27 ?_
  refine a_aload_n dX5_carry_27 0 rfl ?_
  refine a_get3 dX5_carry_28 29 (by decide) (tbc _ kF_RX5_224) (fun w h => tbc _ (uW3 w h)) rfl ob_62 (k29 h.1) ?_
  have h := h.2
  refine a_aload_n dX5_carry_31 0 rfl ?_
  refine a_get3 dX5_carry_32 27 (by decide) (tbc _ kF_RX5_227) (fun w h => tbc _ (uW3 w h)) rfl ob_62 rfl ?_
  refine a_iconst (v := 1) dX5_carry_35 (by decide) ?_
  refine a_isub dX5_carry_36 ?_
  refine a_iald dX5_carry_37 h.1 ?_
  have h := h.2
  exact a_iret dX5_carry_38 ⟨_, rfl, h⟩
set_option maxHeartbeats 4000000 in
set_option maxRecDepth 100000 in
theorem s5_carry {G : GG} {x1 : Int32} {M : MM} {Q : Int32 → MM → Prop} (h : D5_carry x1 M Q) : CM G yX5_carry (WY yX5_carry cX5_carry 2 (some .int)) 0 0 [.ref (gA G 62), .int x1] M (qI Q) := by
  refine CM.of (cc := cX5_carry) (nL := 2) (ret := (some .int)) (own := RX5) (by decide +kernel) rfl rfl (Nat.le_of_ble_eq_true rfl) ?_
  show A5_carry G Q 0 [(0, .ref (gA G 62)), (1, .int x1)] [] M
  unfold D5_carry at h
  refine a_aload_n dX5_carry_0 0 rfl ?_
  refine a_get3 dX5_carry_1 28 (by decide) (tbc _ kF_RX5_221) (fun w h => tbc _ (uW3 w h)) rfl ob_62 rfl ?_
  refine a_if_eq (tgt := 17) dX5_carry_4 (by decide) (fun c => ?_) (fun c => ?_)
  · have h := h.1 c
    refine a_sub [0] rfl ?_
    exact s5_carry_c17 _ h
  · have h := h.2 c
    refine a_aload_n dX5_carry_7 0 rfl ?_
    refine a_get3 dX5_carry_8 29 (by decide) (tbc _ kF_RX5_224) (fun w h => tbc _ (uW3 w h)) rfl ob_62 (k29 h.1) ?_
    have h := h.2
    refine a_aload_n dX5_carry_11 0 rfl ?_
    refine a_get3 dX5_carry_12 27 (by decide) (tbc _ kF_RX5_227) (fun w h => tbc _ (uW3 w h)) rfl ob_62 rfl ?_
    refine a_iload_n dX5_carry_15 1 rfl ?_
    refine a_iast dX5_carry_16 h.1 ?_
    have h := h.2
    refine a_sub [0] rfl ?_
    exact s5_carry_c17 _ h

/-! X5_carryAll -/
theorem dX5_carryAll_0 : decode cX5_carryAll 0 = .ok (.aload_n 0, 1) := by decide +kernel
theorem dX5_carryAll_1 : decode cX5_carryAll 1 = .ok (.aload_n 1, 1) := by decide +kernel
theorem dX5_carryAll_2 : decode cX5_carryAll 2 = .ok (.putfield 224, 3) := by decide +kernel
theorem dX5_carryAll_5 : decode cX5_carryAll 5 = .ok (.aload_n 0, 1) := by decide +kernel
theorem dX5_carryAll_6 : decode cX5_carryAll 6 = .ok (.iload_n 2, 1) := by decide +kernel
theorem dX5_carryAll_7 : decode cX5_carryAll 7 = .ok (.putfield 221, 3) := by decide +kernel
theorem dX5_carryAll_10 : decode cX5_carryAll 10 = .ok (.aload_n 0, 1) := by decide +kernel
theorem dX5_carryAll_11 : decode cX5_carryAll 11 = .ok (.iconst 0, 1) := by decide +kernel
theorem dX5_carryAll_12 : decode cX5_carryAll 12 = .ok (.putfield 227, 3) := by decide +kernel
theorem dX5_carryAll_15 : decode cX5_carryAll 15 = .ok (.aload_n 0, 1) := by decide +kernel
theorem dX5_carryAll_16 : decode cX5_carryAll 16 = .ok (.aload_n 0, 1) := by decide +kernel
theorem dX5_carryAll_17 : decode cX5_carryAll 17 = .ok (.aload_n 0, 1) := by decide +kernel
theorem dX5_carryAll_18 : decode cX5_carryAll 18 = .ok (.getfield 77, 3) := by decide +kernel
theorem dX5_carryAll_21 : decode cX5_carryAll 21 = .ok (.invokevirtual 230, 3) := by decide +kernel
theorem dX5_carryAll_24 : decode cX5_carryAll 24 = .ok (.putfield 77, 3) := by decide +kernel
theorem dX5_carryAll_27 : decode cX5_carryAll 27 = .ok (.aload_n 0, 1) := by decide +kernel
theorem dX5_carryAll_28 : decode cX5_carryAll 28 = .ok (.aload_n 0, 1) := by decide +kernel
theorem dX5_carryAll_29 : decode cX5_carryAll 29 = .ok (.aload_n 0, 1) := by decide +kernel
theorem dX5_carryAll_30 : decode cX5_carryAll 30 = .ok (.getfield 131, 3) := by decide +kernel
theorem dX5_carryAll_33 : decode cX5_carryAll 33 = .ok (.invokevirtual 230, 3) := by decide +kernel
theorem dX5_carryAll_36 : decode cX5_carryAll 36 = .ok (.putfield 131, 3) := by decide +kernel
theorem dX5_carryAll_39 : decode cX5_carryAll 39 = .ok (.aload_n 0, 1) := by decide +kernel
theorem dX5_carryAll_40 : decode cX5_carryAll 40 = .ok (.aload_n 0, 1) := by decide +kernel
theorem dX5_carryAll_41 : decode cX5_carryAll 41 = .ok (.aload_n 0, 1) := by decide +kernel
theorem dX5_carryAll_42 : decode cX5_carryAll 42 = .ok (.getfield 137, 3) := by decide +kernel
theorem dX5_carryAll_45 : decode cX5_carryAll 45 = .ok (.invokevirtual 230, 3) := by decide +kernel
theorem dX5_carryAll_48 : decode cX5_carryAll 48 = .ok (.putfield 137, 3) := by decide +kernel
theorem dX5_carryAll_51 : decode cX5_carryAll 51 = .ok (.aload_n 0, 1) := by decide +kernel
theorem dX5_carryAll_52 : decode cX5_carryAll 52 = .ok (.aload_n 0, 1) := by decide +kernel
theorem dX5_carryAll_53 : decode cX5_carryAll 53 = .ok (.aload_n 0, 1) := by decide +kernel
theorem dX5_carryAll_54 : decode cX5_carryAll 54 = .ok (.getfield 114, 3) := by decide +kernel
theorem dX5_carryAll_57 : decode cX5_carryAll 57 = .ok (.invokevirtual 230, 3) := by decide +kernel
theorem dX5_carryAll_60 : decode cX5_carryAll 60 = .ok (.putfield 114, 3) := by decide +kernel
theorem dX5_carryAll_63 : decode cX5_carryAll 63 = .ok (.iconst 0, 1) := by decide +kernel
theorem dX5_carryAll_64 : decode cX5_carryAll 64 = .ok (.istore_n 3, 1) := by decide +kernel
theorem dX5_carryAll_65 : decode cX5_carryAll 65 = .ok (.iload_n 3, 1) := by decide +kernel
theorem dX5_carryAll_66 : decode cX5_carryAll 66 = .ok (.bipush 8, 2) := by decide +kernel
theorem dX5_carryAll_68 : decode cX5_carryAll 68 = .ok (.if_icmp .ge 89, 3) := by decide +kernel
theorem dX5_carryAll_71 : decode cX5_carryAll 71 = .ok (.aload_n 0, 1) := by decide +kernel
theorem dX5_carryAll_72 : decode cX5_carryAll 72 = .ok (.getfield 7, 3) := by decide +kernel
theorem dX5_carryAll_75 : decode cX5_carryAll 75 = .ok (.iload_n 3, 1) := by decide +kernel
theorem dX5_carryAll_76 : decode cX5_carryAll 76 = .ok (.aload_n 0, 1) := by decide +kernel
theorem dX5_carryAll_77 : decode cX5_carryAll 77 = .ok (.aload_n 0, 1) := by decide +kernel
theorem dX5_carryAll_78 : decode cX5_carryAll 78 = .ok (.getfield 7, 3) := by decide +kernel
theorem dX5_carryAll_81 : decode cX5_carryAll 81 = .ok (.iload_n 3, 1) := by decide +kernel
theorem dX5_carryAll_82 : decode cX5_carryAll 82 = .ok (.iaload, 1) := by decide +kernel
theorem dX5_carryAll_83 : decode cX5_carryAll 83 = .ok (.invokevirtual 230, 3) := by decide +kernel
theorem dX5_carryAll_86 : decode cX5_carryAll 86 = .ok (.iastore, 1) := by decide +kernel
theorem dX5_carryAll_87 : decode cX5_carryAll 87 = .ok (.aload_n 0, 1) := by decide +kernel
theorem dX5_carryAll_88 : decode cX5_carryAll 88 = .ok (.getfield 13, 3) := by decide +kernel
theorem dX5_carryAll_91 : decode cX5_carryAll 91 = .ok (.iload_n 3, 1) := by decide +kernel
theorem dX5_carryAll_92 : decode cX5_carryAll 92 = .ok (.aload_n 0, 1) := by decide +kernel
theorem dX5_carryAll_93 : decode cX5_carryAll 93 = .ok (.aload_n 0, 1) := by decide +kernel
theorem dX5_carryAll_94 : decode cX5_carryAll 94 = .ok (.getfield 13, 3) := by decide +kernel
theorem dX5_carryAll_97 : decode cX5_carryAll 97 = .ok (.iload_n 3, 1) := by decide +kernel
theorem dX5_carryAll_98 : decode cX5_carryAll 98 = .ok (.iaload, 1) := by decide +kernel
theorem dX5_carryAll_99 : decode cX5_carryAll 99 = .ok (.invokevirtual 230, 3) := by decide +kernel
theorem dX5_carryAll_102 : decode cX5_carryAll 102 = .ok (.iastore, 1) := by decide +kernel
theorem dX5_carryAll_103 : decode cX5_carryAll 103 = .ok (.aload_n 0, 1) := by decide +kernel
theorem dX5_carryAll_104 : decode cX5_carryAll 104 = .ok (.getfield 16, 3) := by decide +kernel
theorem dX5_carryAll_107 : decode cX5_carryAll 107 = .ok (.iload_n 3, 1) := by decide +kernel
theorem dX5_carryAll_108 : decode cX5_carryAll 108 = .ok (.aload_n 0, 1) := by decide +kernel
theorem dX5_carryAll_109 : decode cX5_carryAll 109 = .ok (.aload_n 0, 1) := by decide +kernel
theorem dX5_carryAll_110 : decode cX5_carryAll 110 = .ok (.getfield 16, 3) := by decide +kernel
theorem dX5_carryAll_113 : decode cX5_carryAll 113 = .ok (.iload_n 3, 1) := by decide +kernel
theorem dX5_carryAll_114 : decode cX5_carryAll 114 = .ok (.iaload, 1) := by decide +kernel
theorem dX5_carryAll_115 : decode cX5_carryAll 115 = .ok (.invokevirtual 230, 3) := by decide +kernel
theorem dX5_carryAll_118 : decode cX5_carryAll 118 = .ok (.iastore, 1) := by decide +kernel
theorem dX5_carryAll_119 : decode cX5_carryAll 119 = .ok (.aload_n 0, 1) := by decide +kernel
theorem dX5_carryAll_120 : decode cX5_carryAll 120 = .ok (.getfield 19, 3) := by decide +kernel
theorem dX5_carryAll_123 : decode cX5_carryAll 123 = .ok (.iload_n 3, 1) := by decide +kernel
theorem dX5_carryAll_124 : decode cX5_carryAll 124 = .ok (.aload_n 0, 1) := by decide +kernel
theorem dX5_carryAll_125 : decode cX5_carryAll 125 = .ok (.aload_n 0, 1) := by decide +kernel
theorem dX5_carryAll_126 : decode cX5_carryAll 126 = .ok (.getfield 19, 3) := by decide +kernel
theorem dX5_carryAll_129 : decode cX5_carryAll 129 = .ok (.iload_n 3, 1) := by decide +kernel
theorem dX5_carryAll_130 : decode cX5_carryAll 130 = .ok (.iaload, 1) := by decide +kernel
theorem dX5_carryAll_131 : decode cX5_carryAll 131 = .ok (.invokevirtual 230, 3) := by decide +kernel
theorem dX5_carryAll_134 : decode cX5_carryAll 134 = .ok (.iastore, 1) := by decide +kernel
theorem dX5_carryAll_135 : decode cX5_carryAll 135 = .ok (.aload_n 0, 1) := by decide +kernel
theorem dX5_carryAll_136 : decode cX5_carryAll 136 = .ok (.getfield 22, 3) := by decide +kernel
theorem dX5_carryAll_139 : decode cX5_carryAll 139 = .ok (.iload_n 3, 1) := by decide +kernel
theorem dX5_carryAll_140 : decode cX5_carryAll 140 = .ok (.aload_n 0, 1) := by decide +kernel
theorem dX5_carryAll_141 : decode cX5_carryAll 141 = .ok (.aload_n 0, 1) := by decide +kernel
theorem dX5_carryAll_142 : decode cX5_carryAll 142 = .ok (.getfield 22, 3) := by decide +kernel
theorem dX5_carryAll_145 : decode cX5_carryAll 145 = .ok (.iload_n 3, 1) := by decide +kernel
theorem dX5_carryAll_146 : decode cX5_carryAll 146 = .ok (.iaload, 1) := by decide +kernel
theorem dX5_carryAll_147 : decode cX5_carryAll 147 = .ok (.invokevirtual 230, 3) := by decide +kernel
theorem dX5_carryAll_150 : decode cX5_carryAll 150 = .ok (.iastore, 1) := by decide +kernel
theorem dX5_carryAll_151 : decode cX5_carryAll 151 = .ok (.iinc 3 1, 3) := by decide +kernel
theorem dX5_carryAll_154 : decode cX5_carryAll 154 = .ok (.goto (-89), 3) := by decide +kernel
theorem dX5_carryAll_157 : decode cX5_carryAll 157 = .ok (.return_, 1) := by decide +kernel
abbrev A5_carryAll (G : GG) (Q : MM → Prop) := AW G E0 (MZ G (qV Q)) (WY yX5_carryAll cX5_carryAll 4 none) RX5 cX5_carryAll 4 none ({ frames := 1, cells := 0, slots := 0, locals := 21 } : Room) 0 0
def D5_carryAll_c65 (Q : MM → Prop) : Nat → Int32 → MM → Prop
  | 0, _, _ => False
  | n + 1, x3, M => (((8 : Int32) ≤ x3 → Q M) ∧ (¬ (8 : Int32) ≤ x3 → ib 63 x3 ∧ D5_carry (M 63 (ix x3)) M (fun (r16 : Int32) (M17 : MM) => ib 63 x3 ∧ (fun M18 : MM => ib 64 x3 ∧ D5_carry (M18 64 (ix x3)) M18 (fun (r19 : Int32) (M20 : MM) => ib 64 x3 ∧ (fun M21 : MM => ib 65 x3 ∧ D5_carry (M21 65 (ix x3)) M21 (fun (r22 : Int32) (M23 : MM) => ib 65 x3 ∧ (fun M24 : MM => ib 66 x3 ∧ D5_carry (M24 66 (ix x3)) M24 (fun (r25 : Int32) (M26 : MM) => ib 66 x3 ∧ (fun M27 : MM => ib 67 x3 ∧ D5_carry (M27 67 (ix x3)) M27 (fun (r28 : Int32) (M29 : MM) => ib 67 x3 ∧ (fun M30 : MM => (fun v31 : Int32 => D5_carryAll_c65 Q n v31 M30) (x3 + (1 : Int32))) (up M29 67 (ix x3) r28))) (up M26 66 (ix x3) r25))) (up M23 65 (ix x3) r22))) (up M20 64 (ix x3) r19))) (up M17 63 (ix x3) r16))))
def D5_carryAll (x1 : Nat) (x2 : Int32) (M : MM) (Q : MM → Prop) : Prop := (nI x1 ≠ 0 ∧ (nI x1).toNatClampNeg = x1) ∧ (fun M1 : MM => bo x2 ∧ (fun M2 : MM => (fun M3 : MM => D5_carry (M3 62 0) M3 (fun (r4 : Int32) (M5 : MM) => (fun M6 : MM => D5_carry (M6 62 6) M6 (fun (r7 : Int32) (M8 : MM) => (fun M9 : MM => D5_carry (M9 62 7) M9 (fun (r10 : Int32) (M11 : MM) => (fun M12 : MM => D5_carry (M12 62 8) M12 (fun (r13 : Int32) (M14 : MM) => (fun M15 : MM => D5_carryAll_c65 Q FU (0 : Int32) M15) (up M14 62 8 r13))) (up M11 62 7 r10))) (up M8 62 6 r7))) (up M5 62 0 r4))) (up M2 62 27 (0 : Int32))) (up M1 62 28 x2)) (up M 62 29 (nI x1))
set_option maxHeartbeats 4000000 in
set_option maxRecDepth 100000 in
theorem s5_carryAll_c65 {G : GG} {Q : MM → Prop} : ∀ (n : Nat) (x3 : Int32) (M : MM), D5_carryAll_c65 Q n x3 M → A5_carryAll G Q 65 [(0, .ref (gA G 62)), (3, .int x3)] [] M := by
  intro n
  induction n with
  | zero => intro x3 M h; exact h.elim
  | succ n ih =>
    intro x3 M h
    unfold D5_carryAll_c65 at h
    refine a_iload_n dX5_carryAll_65 1 rfl ?_
    refine a_bipush (v := 8) dX5_carryAll_66 (by decide) ?_
    refine a_icmp_ge (tgt := 157) dX5_carryAll_68 (by decide) (fun c => ?_) (fun c => ?_)
    · have h := h.1 c
      exact a_vret dX5_carryAll_157 ⟨rfl, h⟩
    · have h := h.2 c
      refine a_aload_n dX5_carryAll_71 0 rfl ?_
      refine a_get3 dX5_carryAll_72 1 (by decide) (tbc _ kF_RX5_7) (fun w h => tbc _ (uW3 w h)) rfl ob_62 rfl ?_
      refine a_iload_n dX5_carryAll_75 1 rfl ?_
      refine a_aload_n dX5_carryAll_76 0 rfl ?_
      refine a_aload_n dX5_carryAll_77 0 rfl ?_
      refine a_get3 dX5_carryAll_78 1 (by decide) (tbc _ kF_RX5_7) (fun w h => tbc _ (uW3 w h)) rfl ob_62 rfl ?_
      refine a_iload_n dX5_carryAll_81 1 rfl ?_
      refine a_iald dX5_carryAll_82 h.1 ?_
      have h := h.2
      refine a_callVi (n := 1) [.int _] (C := RX5) (ci := 3) (qc := (RX5, TX5, 40)) (fsF := fl3 G _) ob_62.1 (fun _ => en3 ob_62.2) rfl rfl dX5_carryAll_83 (s5_carry h) (gV tbc kM_RX5_230_X5_carry kI_X5_carry kS_X5_carry kN_RX5 kC_X5_carry) rfl (by decide +kernel) ⟨Nat.le_of_ble_eq_true rfl, Nat.le_of_ble_eq_true rfl⟩ rfl rfl (Nat.le_of_ble_eq_true rfl) ⟨Nat.le_refl 0, Nat.le_refl 0⟩ (fun r M h => ?_)
      refine a_iast dX5_carryAll_86 h.1 ?_
      have h := h.2
      refine a_aload_n dX5_carryAll_87 0 rfl ?_
      refine a_get3 dX5_carryAll_88 2 (by decide) (tbc _ kF_RX5_13) (fun w h => tbc _ (uW3 w h)) rfl ob_62 rfl ?_
      refine a_iload_n dX5_carryAll_91 1 rfl ?_
      refine a_aload_n dX5_carryAll_92 0 rfl ?_
      refine a_aload_n dX5_carryAll_93 0 rfl ?_
      refine a_get3 dX5_carryAll_94 2 (by decide) (tbc _ kF_RX5_13) (fun w h => tbc _ (uW3 w h)) rfl ob_62 rfl ?_
      refine a_iload_n dX5_carryAll_97 1 rfl ?_
      refine a_iald dX5_carryAll_98 h.1 ?_
      have h := h.2
      refine a_callVi (n := 1) [.int _] (C := RX5) (ci := 3) (qc := (RX5, TX5, 40)) (fsF := fl3 G _) ob_62.1 (fun _ => en3 ob_62.2) rfl rfl dX5_carryAll_99 (s5_carry h) (gV tbc kM_RX5_230_X5_carry kI_X5_carry kS_X5_carry kN_RX5 kC_X5_carry) rfl (by decide +kernel) ⟨Nat.le_of_ble_eq_true rfl, Nat.le_of_ble_eq_true rfl⟩ rfl rfl (Nat.le_of_ble_eq_true rfl) ⟨Nat.le_refl 0, Nat.le_refl 0⟩ (fun r M h => ?_)
      refine a_iast dX5_carryAll_102 h.1 ?_
      have h := h.2
      refine a_aload_n dX5_carryAll_103 0 rfl ?_
      refine a_get3 dX5_carryAll_104 3 (by decide) (tbc _ kF_RX5_16) (fun w h => tbc _ (uW3 w h)) rfl ob_62 rfl ?_
      refine a_iload_n dX5_carryAll_107 1 rfl ?_
      refine a_aload_n dX5_carryAll_108 0 rfl ?_
      refine a_aload_n dX5_carryAll_109 0 rfl ?_
      refine a_get3 dX5_carryAll_110 3 (by decide) (tbc _ kF_RX5_16) (fun w h => tbc _ (uW3 w h)) rfl ob_62 rfl ?_
      refine a_iload_n dX5_carryAll_113 1 rfl ?_
      refine a_iald dX5_carryAll_114 h.1 ?_
      have h := h.2
      refine a_callVi (n := 1) [.int _] (C := RX5) (ci := 3) (qc := (RX5, TX5, 40)) (fsF := fl3 G _) ob_62.1 (fun _ => en3 ob_62.2) rfl rfl dX5_carryAll_115 (s5_carry h) (gV tbc kM_RX5_230_X5_carry kI_X5_carry kS_X5_carry kN_RX5 kC_X5_carry) rfl (by decide +kernel) ⟨Nat.le_of_ble_eq_true rfl, Nat.le_of_ble_eq_true rfl⟩ rfl rfl (Nat.le_of_ble_eq_true rfl) ⟨Nat.le_refl 0, Nat.le_refl 0⟩ (fun r M h => ?_)
      refine a_iast dX5_carryAll_118 h.1 ?_
      have h := h.2
      refine a_aload_n dX5_carryAll_119 0 rfl ?_
      refine a_get3 dX5_carryAll_120 4 (by decide) (tbc _ kF_RX5_19) (fun w h => tbc _ (uW3 w h)) rfl ob_62 rfl ?_
      refine a_iload_n dX5_carryAll_123 1 rfl ?_
      refine a_aload_n dX5_carryAll_124 0 rfl ?_
      refine a_aload_n dX5_carryAll_125 0 rfl ?_
      refine a_get3 dX5_carryAll_126 4 (by decide) (tbc _ kF_RX5_19) (fun w h => tbc _ (uW3 w h)) rfl ob_62 rfl ?_
      refine a_iload_n dX5_carryAll_129 1 rfl ?_
      refine a_iald dX5_carryAll_130 h.1 ?_
      have h := h.2
      refine a_callVi (n := 1) [.int _] (C := RX5) (ci := 3) (qc := (RX5, TX5, 40)) (fsF := fl3 G _) ob_62.1 (fun _ => en3 ob_62.2) rfl rfl dX5_carryAll_131 (s5_carry h) (gV tbc kM_RX5_230_X5_carry kI_X5_carry kS_X5_carry kN_RX5 kC_X5_carry) rfl (by decide +kernel) ⟨Nat.le_of_ble_eq_true rfl, Nat.le_of_ble_eq_true rfl⟩ rfl rfl (Nat.le_of_ble_eq_true rfl) ⟨Nat.le_refl 0, Nat.le_refl 0⟩ (fun r M h => ?_)
      refine a_iast dX5_carryAll_134 h.1 ?_
      have h := h.2
      refine a_aload_n dX5_carryAll_135 0 rfl ?_
      refine a_get3 dX5_carryAll_136 5 (by decide) (tbc _ kF_RX5_22) (fun w h => tbc _ (uW3 w h)) rfl ob_62 rfl ?_
      refine a_iload_n dX5_carryAll_139 1 rfl ?_
      refine a_aload_n dX5_carryAll_140 0 rfl ?_
      refine a_aload_n dX5_carryAll_141 0 rfl ?_
      refine a_get3 dX5_carryAll_142 5 (by decide) (tbc _ kF_RX5_22) (fun w h => tbc _ (uW3 w h)) rfl ob_62 rfl ?_
      refine a_iload_n dX5_carryAll_145 1 rfl ?_
      refine a_iald dX5_carryAll_146 h.1 ?_
      have h := h.2
      refine a_callVi (n := 1) [.int _] (C := RX5) (ci := 3) (qc := (RX5, TX5, 40)) (fsF := fl3 G _) ob_62.1 (fun _ => en3 ob_62.2) rfl rfl dX5_carryAll_147 (s5_carry h) (gV tbc kM_RX5_230_X5_carry kI_X5_carry kS_X5_carry kN_RX5 kC_X5_carry) rfl (by decide +kernel) ⟨Nat.le_of_ble_eq_true rfl, Nat.le_of_ble_eq_true rfl⟩ rfl rfl (Nat.le_of_ble_eq_true rfl) ⟨Nat.le_refl 0, Nat.le_refl 0⟩ (fun r M h => ?_)
      refine a_iast dX5_carryAll_150 h.1 ?_
      have h := h.2
      refine a_iinc (L' := [(3, .int _), (0, .ref _)]) dX5_carryAll_151 1 rfl (show _ + Int32.ofInt (1 : Int) = _ + (1 : Int32) from rfl) (by decide) rfl ?_
      refine a_goto (tgt := 65) dX5_carryAll_154 (by decide) ?_
      refine a_sub [1, 0] rfl ?_
      exact ih _ _ h
set_option maxHeartbeats 4000000 in
set_option maxRecDepth 100000 in
theorem s5_carryAll {G : GG} {x1 : Nat} {x2 : Int32} {M : MM} {Q : MM → Prop} (h : D5_carryAll x1 x2 M Q) : CM G yX5_carryAll (WY yX5_carryAll cX5_carryAll 4 none) 1 21 [.ref (gA G 62), .ref (gA G x1), .int x2] M (qV Q) := by
  refine CM.of (cc := cX5_carryAll) (nL := 4) (ret := none) (own := RX5) (by decide +kernel) rfl rfl (Nat.le_of_ble_eq_true rfl) ?_
  show A5_carryAll G Q 0 [(0, .ref (gA G 62)), (1, .ref (gA G x1)), (2, .int x2)] [] M
  unfold D5_carryAll at h
  refine a_aload_n dX5_carryAll_0 0 rfl ?_
  refine a_aload_n dX5_carryAll_1 1 rfl ?_
  refine a_put3 dX5_carryAll_2 29 (by decide) (tbc _ kF_RX5_224) (fun w h => tbc _ (uW3 w h)) rfl rfl rfl rfl ob_62 (fs3_29 h.1.1 h.1.2) ?_
  have h := h.2
  refine a_aload_n dX5_carryAll_5 0 rfl ?_
  refine a_iload_n dX5_carryAll_6 2 rfl ?_
  refine a_put3 dX5_carryAll_7 28 (by decide) (tbc _ kF_RX5_221) (fun w h => tbc _ (uW3 w h)) rfl rfl (bo_n h.1) (bo_f h.1) ob_62 fs3_28 ?_
  have h := h.2
  refine a_aload_n dX5_carryAll_10 0 rfl ?_
  refine a_iconst (v := 0) dX5_carryAll_11 (by decide) ?_
  refine a_put3 dX5_carryAll_12 27 (by decide) (tbc _ kF_RX5_227) (fun w h => tbc _ (uW3 w h)) rfl rfl rfl rfl ob_62 fs3_27 ?_
  refine a_aload_n dX5_carryAll_15 0 rfl ?_
  refine a_aload_n dX5_carryAll_16 0 rfl ?_
  refine a_aload_n dX5_carryAll_17 0 rfl ?_
  refine a_get3 dX5_carryAll_18 0 (by decide) (tbc _ kF_RX5_77) (fun w h => tbc _ (uW3 w h)) rfl ob_62 rfl ?_
  refine a_callVi (n := 1) [.int _] (C := RX5) (ci := 3) (qc := (RX5, TX5, 40)) (fsF := fl3 G _) ob_62.1 (fun _ => en3 ob_62.2) rfl rfl dX5_carryAll_21 (s5_carry h) (gV tbc kM_RX5_230_X5_carry kI_X5_carry kS_X5_carry kN_RX5 kC_X5_carry) rfl (by decide +kernel) ⟨Nat.le_of_ble_eq_true rfl, Nat.le_of_ble_eq_true rfl⟩ rfl rfl (Nat.le_of_ble_eq_true rfl) ⟨Nat.le_refl 0, Nat.le_refl 0⟩ (fun r M h => ?_)
  refine a_put3 dX5_carryAll_24 0 (by decide) (tbc _ kF_RX5_77) (fun w h => tbc _ (uW3 w h)) rfl rfl rfl rfl ob_62 fs3_0 ?_
  refine a_aload_n dX5_carryAll_27 0 rfl ?_
  refine a_aload_n dX5_carryAll_28 0 rfl ?_
  refine a_aload_n dX5_carryAll_29 0 rfl ?_
  refine a_get3 dX5_carryAll_30 6 (by decide) (tbc _ kF_RX5_131) (fun w h => tbc _ (uW3 w h)) rfl ob_62 rfl ?_
  refine a_callVi (n := 1) [.int _] (C := RX5) (ci := 3) (qc := (RX5, TX5, 40)) (fsF := fl3 G _) ob_62.1 (fun _ => en3 ob_62.2) rfl rfl dX5_carryAll_33 (s5_carry h) (gV tbc kM_RX5_230_X5_carry kI_X5_carry kS_X5_carry kN_RX5 kC_X5_carry) rfl (by decide +kernel) ⟨Nat.le_of_ble_eq_true rfl, Nat.le_of_ble_eq_true rfl⟩ rfl rfl (Nat.le_of_ble_eq_true rfl) ⟨Nat.le_refl 0, Nat.le_refl 0⟩ (fun r M h => ?_)
  refine a_put3 dX5_carryAll_36 6 (by decide) (tbc _ kF_RX5_131) (fun w h => tbc _ (uW3 w h)) rfl rfl rfl rfl ob_62 fs3_6 ?_
  refine a_aload_n dX5_carryAll_39 0 rfl ?_
  refine a_aload_n dX5_carryAll_40 0 rfl ?_
  refine a_aload_n dX5_carryAll_41 0 rfl ?_
  refine a_get3 dX5_carryAll_42 7 (by decide) (tbc _ kF_RX5_137) (fun w h => tbc _ (uW3 w h)) rfl ob_62 rfl ?_
  refine a_callVi (n := 1) [.int _] (C := RX5) (ci := 3) (qc := (RX5, TX5, 40)) (fsF := fl3 G _) ob_62.1 (fun _ => en3 ob_62.2) rfl rfl dX5_carryAll_45 (s5_carry h) (gV tbc kM_RX5_230_X5_carry kI_X5_carry kS_X5_carry kN_RX5 kC_X5_carry) rfl (by decide +kernel) ⟨Nat.le_of_ble_eq_true rfl, Nat.le_of_ble_eq_true rfl⟩ rfl rfl (Nat.le_of_ble_eq_true rfl) ⟨Nat.le_refl 0, Nat.le_refl 0⟩ (fun r M h => ?_)
  refine a_put3 dX5_carryAll_48 7 (by decide) (tbc _ kF_RX5_137) (fun w h => tbc _ (uW3 w h)) rfl rfl rfl rfl ob_62 fs3_7 ?_
  refine a_aload_n dX5_carryAll_51 0 rfl ?_
  refine a_aload_n dX5_carryAll_52 0 rfl ?_
  refine a_aload_n dX5_carryAll_53 0 rfl ?_
  refine a_get3 dX5_carryAll_54 8 (by decide) (tbc _ kF_RX5_114) (fun w h => tbc _ (uW3 w h)) rfl ob_62 rfl ?_
  refine a_callVi (n := 1) [.int _] (C := RX5) (ci := 3) (qc := (RX5, TX5, 40)) (fsF := fl3 G _) ob_62.1 (fun _ => en3 ob_62.2) rfl rfl dX5_carryAll_57 (s5_carry h) (gV tbc kM_RX5_230_X5_carry kI_X5_carry kS_X5_carry kN_RX5 kC_X5_carry) rfl (by decide +kernel) ⟨Nat.le_of_ble_eq_true rfl, Nat.le_of_ble_eq_true rfl⟩ rfl rfl (Nat.le_of_ble_eq_true rfl) ⟨Nat.le_refl 0, Nat.le_refl 0⟩ (fun r M h => ?_)
  refine a_put3 dX5_carryAll_60 8 (by decide) (tbc _ kF_RX5_114) (fun w h => tbc _ (uW3 w h)) rfl rfl rfl rfl ob_62 fs3_8 ?_
  refine a_iconst (v := 0) dX5_carryAll_63 (by decide) ?_
  refine a_istore_n (i := 3) (L' := [(3, .int _), (0, .ref _), (1, .ref _), (2, .int _)]) dX5_carryAll_64 rfl (by decide) rfl ?_
  refine a_sub [1, 0] rfl ?_
  exact s5_carryAll_c65 _ _ _ h

/-! X5_again -/
theorem dX5_again_0 : decode cX5_again 0 = .ok (.aload_n 0, 1) := by decide +kernel
theorem dX5_again_1 : decode cX5_again 1 = .ok (.aload_n 0, 1) := by decide +kernel
theorem dX5_again_2 : decode cX5_again 2 = .ok (.getfield 46, 3) := by decide +kernel
theorem dX5_again_5 : decode cX5_again 5 = .ok (.iconst 0, 1) := by decide +kernel
theorem dX5_again_6 : decode cX5_again 6 = .ok (.invokevirtual 233, 3) := by decide +kernel
theorem dX5_again_9 : decode cX5_again 9 = .ok (.return_, 1) := by decide +kernel
abbrev A5_again (G : GG) (Q : MM → Prop) := AW G E0 (MZ G (qV Q)) (WY yX5_again cX5_again 1 none) RX5 cX5_again 1 none ({ frames := 2, cells := 0, slots := 0, locals := 44 } : Room) 0 0
def D5_again (M : MM) (Q : MM → Prop) : Prop := D5_carryAll 75 (0 : Int32) M (fun (M2 : MM) => Q M2)
set_option maxHeartbeats 4000000 in
set_option maxRecDepth 100000 in
theorem s5_again {G : GG} {M : MM} {Q : MM → Prop} (h : D5_again M Q) : CM G yX5_again (WY yX5_again cX5_again 1 none) 2 44 [.ref (gA G 62)] M (qV Q) := by
  refine CM.of (cc := cX5_again) (nL := 1) (ret := none) (own := RX5) (by decide +kernel) rfl rfl (Nat.le_of_ble_eq_true rfl) ?_
  show A5_again G Q 0 [(0, .ref (gA G 62))] [] M
  unfold D5_again at h
  refine a_aload_n dX5_again_0 0 rfl ?_
  refine a_aload_n dX5_again_1 0 rfl ?_
  refine a_get3 dX5_again_2 24 (by decide) (tbc _ kF_RX5_46) (fun w h => tbc _ (uW3 w h)) rfl ob_62 rfl ?_
  refine a_iconst (v := 0) dX5_again_5 (by decide) ?_
  refine a_callVv (n := 2) [.ref _, .int _] (C := RX5) (ci := 3) (qc := (RX5, TX5, 40)) (fsF := fl3 G _) ob_62.1 (fun _ => en3 ob_62.2) rfl rfl dX5_again_6 (s5_carryAll h) (gV tbc kM_RX5_233_X5_carryAll kI_X5_carryAll kS_X5_carryAll kN_RX5 kC_X5_carryAll) rfl (by decide +kernel) ⟨Nat.le_of_ble_eq_true rfl, Nat.le_of_ble_eq_true rfl⟩ rfl rfl (Nat.le_of_ble_eq_true rfl) ⟨Nat.le_refl 0, Nat.le_refl 0⟩ (fun M h => ?_)
  exact a_vret dX5_again_9 ⟨rfl, h⟩

/-! X5_areBeside -/
theorem dX5_areBeside_0 : decode cX5_areBeside 0 = .ok (.iload_n 0, 1) := by decide +kernel
theorem dX5_areBeside_1 : decode cX5_areBeside 1 = .ok (.iconst 5, 1) := by decide +kernel
theorem dX5_areBeside_2 : decode cX5_areBeside 2 = .ok (.idiv, 1) := by decide +kernel
theorem dX5_areBeside_3 : decode cX5_areBeside 3 = .ok (.iload_n 1, 1) := by decide +kernel
theorem dX5_areBeside_4 : decode cX5_areBeside 4 = .ok (.iconst 5, 1) := by decide +kernel
theorem dX5_areBeside_5 : decode cX5_areBeside 5 = .ok (.idiv, 1) := by decide +kernel
theorem dX5_areBeside_6 : decode cX5_areBeside 6 = .ok (.isub, 1) := by decide +kernel
theorem dX5_areBeside_7 : decode cX5_areBeside 7 = .ok (.istore_n 2, 1) := by decide +kernel
theorem dX5_areBeside_8 : decode cX5_areBeside 8 = .ok (.iload_n 0, 1) := by decide +kernel
theorem dX5_areBeside_9 : decode cX5_areBeside 9 = .ok (.iconst 5, 1) := by decide +kernel
theorem dX5_areBeside_10 : decode cX5_areBeside 10 = .ok (.irem, 1) := by decide +kernel
theorem dX5_areBeside_11 : decode cX5_areBeside 11 = .ok (.iload_n 1, 1) := by decide +kernel
theorem dX5_areBeside_12 : decode cX5_areBeside 12 = .ok (.iconst 5, 1) := by decide +kernel
theorem dX5_areBeside_13 : decode cX5_areBeside 13 = .ok (.irem, 1) := by decide +kernel
theorem dX5_areBeside_14 : decode cX5_areBeside 14 = .ok (.isub, 1) := by decide +kernel
theorem dX5_areBeside_15 : decode cX5_areBeside 15 = .ok (.istore_n 3, 1) := by decide +kernel
theorem dX5_areBeside_16 : decode cX5_areBeside 16 = .ok (.iload_n 2, 1) := by decide +kernel
theorem dX5_areBeside_17 : decode cX5_areBeside 17 = .ok (.iload_n 2, 1) := by decide +kernel
theorem dX5_areBeside_18 : decode cX5_areBeside 18 = .ok (.imul, 1) := by decide +kernel
theorem dX5_areBeside_19 : decode cX5_areBeside 19 = .ok (.iload_n 3, 1) := by decide +kernel
theorem dX5_areBeside_20 : decode cX5_areBeside 20 = .ok (.iload_n 3, 1) := by decide +kernel
theorem dX5_areBeside_21 : decode cX5_areBeside 21 = .ok (.imul, 1) := by decide +kernel
theorem dX5_areBeside_22 : decode cX5_areBeside 22 = .ok (.iadd, 1) := by decide +kernel
theorem dX5_areBeside_23 : decode cX5_areBeside 23 = .ok (.iconst 1, 1) := by decide +kernel
theorem dX5_areBeside_24 : decode cX5_areBeside 24 = .ok (.if_icmp .ne 7, 3) := by decide +kernel
theorem dX5_areBeside_27 : decode cX5_areBeside 27 = .ok (.iconst 1, 1) := by decide +kernel
theorem dX5_areBeside_28 : decode cX5_areBeside 28 = .ok (.goto 4, 3) := by decide +kernel
theorem dX5_areBeside_31 : decode cX5_areBeside 31 = .ok (.iconst 0, 1) := by decide +kernel
theorem dX5_areBeside_32 : decode cX5_areBeside 32 = .ok (.ireturn, 1) := by decide +kernel
abbrev A5_areBeside (G : GG) (Q : Int32 → MM → Prop) := AW G E0 (MZ G (qI Q)) (WY yX5_areBeside cX5_areBeside 4 (some .boolean)) RX5 cX5_areBeside 4 (some .boolean) ({ frames := 0, cells := 0, slots := 0, locals := 0 } : Room) 0 0
def D5_areBeside (x0 : Int32) (x1 : Int32) (M : MM) (Q : Int32 → MM → Prop) : Prop := (fun v1 : Int32 => (fun v2 : Int32 => ((((v1 * v1) + (v2 * v2)) ≠ (1 : Int32) → Q (0 : Int32) M) ∧ (((v1 * v1) + (v2 * v2)) = (1 : Int32) → Q (1 : Int32) M))) ((x0 - x0 / (5 : Int32) * (5 : Int32)) - (x1 - x1 / (5 : Int32) * (5 : Int32)))) ((x0 / (5 : Int32)) - (x1 / (5 : Int32)))
set_option maxHeartbeats 4000000 in
set_option maxRecDepth 100000 in
theorem s5_areBeside {G : GG} {x0 : Int32} {x1 : Int32} {M : MM} {Q : Int32 → MM → Prop} (h : D5_areBeside x0 x1 M Q) : CM G yX5_areBeside (WY yX5_areBeside cX5_areBeside 4 (some .boolean)) 0 0 [.int x0, .int x1] M (qI Q) := by
  refine CM.of (cc := cX5_areBeside) (nL := 4) (ret := (some .boolean)) (own := RX5) (by decide +kernel) rfl rfl (Nat.le_of_ble_eq_true rfl) ?_
  show A5_areBeside G Q 0 [(0, .int x0), (1, .int x1)] [] M
  unfold D5_areBeside at h
  refine a_iload_n dX5_areBeside_0 0 rfl ?_
  refine a_iconst (v := 5) dX5_areBeside_1 (by decide) ?_
  refine a_idiv dX5_areBeside_2 (by decide) ?_
  refine a_iload_n dX5_areBeside_3 1 rfl ?_
  refine a_iconst (v := 5) dX5_areBeside_4 (by decide) ?_
  refine a_idiv dX5_areBeside_5 (by decide) ?_
  refine a_isub dX5_areBeside_6 ?_
  refine a_istore_n (i := 2) (L' := [(2, .int _), (0, .int _), (1, .int _)]) dX5_areBeside_7 rfl (by decide) rfl ?_
  refine a_iload_n dX5_areBeside_8 1 rfl ?_
  refine a_iconst (v := 5) dX5_areBeside_9 (by decide) ?_
  refine a_irem dX5_areBeside_10 (by decide) ?_
  refine a_iload_n dX5_areBeside_11 2 rfl ?_
  refine a_iconst (v := 5) dX5_areBeside_12 (by decide) ?_
  refine a_irem dX5_areBeside_13 (by decide) ?_
  refine a_isub dX5_areBeside_14 ?_
  refine a_istore_n (i := 3) (L' := [(3, .int _), (2, .int _), (0, .int _), (1, .int _)]) dX5_areBeside_15 rfl (by decide) rfl ?_
  refine a_iload_n dX5_areBeside_16 1 rfl ?_
  refine a_iload_n dX5_areBeside_17 1 rfl ?_
  refine a_imul dX5_areBeside_18 ?_
  refine a_iload_n dX5_areBeside_19 0 rfl ?_
  refine a_iload_n dX5_areBeside_20 0 rfl ?_
  refine a_imul dX5_areBeside_21 ?_
  refine a_iadd dX5_areBeside_22 ?_
  refine a_iconst (v := 1) dX5_areBeside_23 (by decide) ?_
  refine a_icmp_ne (tgt := 31) dX5_areBeside_24 (by decide) (fun c => ?_) (fun c => ?_)
  · have h := h.1 c
    refine a_iconst (v := 0) dX5_areBeside_31 (by decide) ?_
    exact a_zret dX5_areBeside_32 (Or.inl rfl) ⟨_, rfl, h⟩
  · have h := h.2 c
    refine a_iconst (v := 1) dX5_areBeside_27 (by decide) ?_
    refine a_goto (tgt := 32) dX5_areBeside_28 (by decide) ?_
    exact a_zret dX5_areBeside_32 (Or.inr rfl) ⟨_, rfl, h⟩

/-! X5_aloneBits -/
theorem dX5_aloneBits_0 : decode cX5_aloneBits 0 = .ok (.iconst 0, 1) := by decide +kernel
theorem dX5_aloneBits_1 : decode cX5_aloneBits 1 = .ok (.istore_n 1, 1) := by decide +kernel
theorem dX5_aloneBits_2 : decode cX5_aloneBits 2 = .ok (.iconst 0, 1) := by decide +kernel
theorem dX5_aloneBits_3 : decode cX5_aloneBits 3 = .ok (.istore_n 2, 1) := by decide +kernel
theorem dX5_aloneBits_4 : decode cX5_aloneBits 4 = .ok (.iload_n 2, 1) := by decide +kernel
theorem dX5_aloneBits_5 : decode cX5_aloneBits 5 = .ok (.aload_n 0, 1) := by decide +kernel
theorem dX5_aloneBits_6 : decode cX5_aloneBits 6 = .ok (.getfield 77, 3) := by decide +kernel
theorem dX5_aloneBits_9 : decode cX5_aloneBits 9 = .ok (.if_icmp .ge 96, 3) := by decide +kernel
theorem dX5_aloneBits_12 : decode cX5_aloneBits 12 = .ok (.aload_n 0, 1) := by decide +kernel
theorem dX5_aloneBits_13 : decode cX5_aloneBits 13 = .ok (.getfield 22, 3) := by decide +kernel
theorem dX5_aloneBits_16 : decode cX5_aloneBits 16 = .ok (.iload_n 2, 1) := by decide +kernel
theorem dX5_aloneBits_17 : decode cX5_aloneBits 17 = .ok (.iaload, 1) := by decide +kernel
theorem dX5_aloneBits_18 : decode cX5_aloneBits 18 = .ok (.ifCond .ne 7, 3) := by decide +kernel
theorem dX5_aloneBits_21 : decode cX5_aloneBits 21 = .ok (.iconst 1, 1) := by decide +kernel
theorem dX5_aloneBits_22 : decode cX5_aloneBits 22 = .ok (.goto 4, 3) := by decide +kernel
theorem dX5_aloneBits_25 : decode cX5_aloneBits 25 = .ok (.iconst 0, 1) := by decide +kernel
theorem dX5_aloneBits_26 : decode cX5_aloneBits 26 = .ok (.istore_n 3, 1) := by decide +kernel
theorem dX5_aloneBits_27 : decode cX5_aloneBits 27 = .ok (.iconst 0, 1) := by decide +kernel
theorem dX5_aloneBits_28 : decode cX5_aloneBits 28 = .ok (.istore 4, 2) := by decide +kernel
theorem dX5_aloneBits_30 : decode cX5_aloneBits 30 = .ok (.iload 4, 2) := by decide +kernel
theorem dX5_aloneBits_32 : decode cX5_aloneBits 32 = .ok (.aload_n 0, 1) := by decide +kernel
theorem dX5_aloneBits_33 : decode cX5_aloneBits 33 = .ok (.getfield 77, 3) := by decide +kernel
theorem dX5_aloneBits_36 : decode cX5_aloneBits 36 = .ok (.if_icmp .ge 49, 3) := by decide +kernel
theorem dX5_aloneBits_39 : decode cX5_aloneBits 39 = .ok (.iload_n 3, 1) := by decide +kernel
theorem dX5_aloneBits_40 : decode cX5_aloneBits 40 = .ok (.ifCond .eq 37, 3) := by decide +kernel
theorem dX5_aloneBits_43 : decode cX5_aloneBits 43 = .ok (.aload_n 0, 1) := by decide +kernel
theorem dX5_aloneBits_44 : decode cX5_aloneBits 44 = .ok (.getfield 22, 3) := by decide +kernel
theorem dX5_aloneBits_47 : decode cX5_aloneBits 47 = .ok (.iload 4, 2) := by decide +kernel
theorem dX5_aloneBits_49 : decode cX5_aloneBits 49 = .ok (.iaload, 1) := by decide +kernel
theorem dX5_aloneBits_50 : decode cX5_aloneBits 50 = .ok (.iconst 1, 1) := by decide +kernel
theorem dX5_aloneBits_51 : decode cX5_aloneBits 51 = .ok (.if_icmp .eq 22, 3) := by decide +kernel
theorem dX5_aloneBits_54 : decode cX5_aloneBits 54 = .ok (.aload_n 0, 1) := by decide +kernel
theorem dX5_aloneBits_55 : decode cX5_aloneBits 55 = .ok (.getfield 16, 3) := by decide +kernel
theorem dX5_aloneBits_58 : decode cX5_aloneBits 58 = .ok (.iload_n 2, 1) := by decide +kernel
theorem dX5_aloneBits_59 : decode cX5_aloneBits 59 = .ok (.iaload, 1) := by decide +kernel
theorem dX5_aloneBits_60 : decode cX5_aloneBits 60 = .ok (.aload_n 0, 1) := by decide +kernel
theorem dX5_aloneBits_61 : decode cX5_aloneBits 61 = .ok (.getfield 16, 3) := by decide +kernel
theorem dX5_aloneBits_64 : decode cX5_aloneBits 64 = .ok (.iload 4, 2) := by decide +kernel
theorem dX5_aloneBits_66 : decode cX5_aloneBits 66 = .ok (.iaload, 1) := by decide +kernel
theorem dX5_aloneBits_67 : decode cX5_aloneBits 67 = .ok (.invokestatic 317, 3) := by decide +kernel
theorem dX5_aloneBits_70 : decode cX5_aloneBits 70 = .ok (.ifCond .ne 7, 3) := by decide +kernel
theorem dX5_aloneBits_73 : decode cX5_aloneBits 73 = .ok (.iconst 1, 1) := by decide +kernel
theorem dX5_aloneBits_74 : decode cX5_aloneBits 74 = .ok (.goto 4, 3) := by decide +kernel
theorem dX5_aloneBits_77 : decode cX5_aloneBits 77 = .ok (.iconst 0, 1) := by decide +kernel
theorem dX5_aloneBits_78 : decode cX5_aloneBits 78 = .ok (.istore_n 3, 1) := by decide +kernel
theorem dX5_aloneBits_79 : decode cX5_aloneBits 79 = .ok (.iinc 4 1, 3) := by decide +kernel
theorem dX5_aloneBits_82 : decode cX5_aloneBits 82 = .ok (.goto (-52), 3) := by decide +kernel
theorem dX5_aloneBits_85 : decode cX5_aloneBits 85 = .ok (.iload_n 1, 1) := by decide +kernel
theorem dX5_aloneBits_86 : decode cX5_aloneBits 86 = .ok (.iload_n 3, 1) := by decide +kernel
theorem dX5_aloneBits_87 : decode cX5_aloneBits 87 = .ok (.ifCond .eq 9, 3) := by decide +kernel
theorem dX5_aloneBits_90 : decode cX5_aloneBits 90 = .ok (.iconst 1, 1) := by decide +kernel
theorem dX5_aloneBits_91 : decode cX5_aloneBits 91 = .ok (.iload_n 2, 1) := by decide +kernel
theorem dX5_aloneBits_92 : decode cX5_aloneBits 92 = .ok (.ishl, 1) := by decide +kernel
theorem dX5_aloneBits_93 : decode cX5_aloneBits 93 = .ok (.goto 4, 3) := by decide +kernel
theorem dX5_aloneBits_96 : decode cX5_aloneBits 96 = .ok (.iconst 0, 1) := by decide +kernel
theorem dX5_aloneBits_97 : decode cX5_aloneBits 97 = .ok (.ior, 1) := by decide +kernel
theorem dX5_aloneBits_98 : decode cX5_aloneBits 98 = .ok (.istore_n 1, 1) := by decide +kernel
theorem dX5_aloneBits_99 : decode cX5_aloneBits 99 = .ok (.iinc 2 1, 3) := by decide +kernel
theorem dX5_aloneBits_102 : decode cX5_aloneBits 102 = .ok (.goto (-98), 3) := by decide +kernel
theorem dX5_aloneBits_105 : decode cX5_aloneBits 105 = .ok (.iload_n 1, 1) := by decide +kernel
theorem dX5_aloneBits_106 : decode cX5_aloneBits 106 = .ok (.ireturn, 1) := by decide +kernel
abbrev A5_aloneBits (G : GG) (Q : Int32 → MM → Prop) := AW G E0 (MZ G (qI Q)) (WY yX5_aloneBits cX5_aloneBits 5 (some .int)) RX5 cX5_aloneBits 5 (some .int) ({ frames := 1, cells := 0, slots := 0, locals := 23 } : Room) 0 0
def D5_aloneBits_c78 (K30 : Int32 → Int32 → Int32 → Int32 → MM → Prop) (K4 : Int32 → Int32 → MM → Prop) (Q : Int32 → MM → Prop) (x1 : Int32) (x2 : Int32) (x4 : Int32) (s0 : Int32) (M : MM) : Prop := (fun v5 : Int32 => K30 x1 x2 s0 v5 M) (x4 + (1 : Int32))
def D5_aloneBits_c73 (K30 : Int32 → Int32 → Int32 → Int32 → MM → Prop) (K4 : Int32 → Int32 → MM → Prop) (Q : Int32 → MM → Prop) (x1 : Int32) (x2 : Int32) (x4 : Int32) (M : MM) : Prop := D5_aloneBits_c78 K30 K4 Q x1 x2 x4 (1 : Int32) M
def D5_aloneBits_c77 (K30 : Int32 → Int32 → Int32 → Int32 → MM → Prop) (K4 : Int32 → Int32 → MM → Prop) (Q : Int32 → MM → Prop) (x1 : Int32) (x2 : Int32) (x4 : Int32) (M : MM) : Prop := D5_aloneBits_c78 K30 K4 Q x1 x2 x4 (0 : Int32) M
def D5_aloneBits_c97 (K4 : Int32 → Int32 → MM → Prop) (Q : Int32 → MM → Prop) (x2 : Int32) (s0 : Int32) (s1 : Int32) (M : MM) : Prop := (fun v3 : Int32 => (fun v4 : Int32 => K4 v3 v4 M) (x2 + (1 : Int32))) (s1 ||| s0)
def D5_aloneBits_c85 (K4 : Int32 → Int32 → MM → Prop) (Q : Int32 → MM → Prop) (x1 : Int32) (x2 : Int32) (x3 : Int32) (M : MM) : Prop := ((x3 = 0 → D5_aloneBits_c97 K4 Q x2 (0 : Int32) x1 M) ∧ (¬ x3 = 0 → D5_aloneBits_c97 K4 Q x2 ((1 : Int32) <<< (x2 &&& 31)) x1 M))
def D5_aloneBits_c30 (K4 : Int32 → Int32 → MM → Prop) (Q : Int32 → MM → Prop) : Nat → Int32 → Int32 → Int32 → Int32 → MM → Prop
  | 0, _, _, _, _, _ => False
  | n + 1, x1, x2, x3, x4, M => (((M 62 0) ≤ x4 → D5_aloneBits_c85 K4 Q x1 x2 x3 M) ∧ (¬ (M 62 0) ≤ x4 → ((x3 = 0 → D5_aloneBits_c77 (D5_aloneBits_c30 K4 Q n) K4 Q x1 x2 x4 M) ∧ (¬ x3 = 0 → ib 67 x4 ∧ (((M 67 (ix x4)) = (1 : Int32) → D5_aloneBits_c73 (D5_aloneBits_c30 K4 Q n) K4 Q x1 x2 x4 M) ∧ (¬ (M 67 (ix x4)) = (1 : Int32) → ib 65 x2 ∧ ib 65 x4 ∧ D5_areBeside (M 65 (ix x2)) (M 65 (ix x4)) M (fun (r1 : Int32) (M2 : MM) => ((r1 ≠ 0 → D5_aloneBits_c77 (D5_aloneBits_c30 K4 Q n) K4 Q x1 x2 x4 M2) ∧ (r1 = 0 → D5_aloneBits_c73 (D5_aloneBits_c30 K4 Q n) K4 Q x1 x2 x4 M2)))))))))
def D5_aloneBits_c26 (K4 : Int32 → Int32 → MM → Prop) (Q : Int32 → MM → Prop) (x1 : Int32) (x2 : Int32) (s0 : Int32) (M : MM) : Prop := D5_aloneBits_c30 K4 Q FU x1 x2 s0 (0 : Int32) M
def D5_aloneBits_c4 (Q : Int32 → MM → Prop) : Nat → Int32 → Int32 → MM → Prop
  | 0, _, _, _ => False
  | n + 1, x1, x2, M => (((M 62 0) ≤ x2 → Q x1 M) ∧ (¬ (M 62 0) ≤ x2 → ib 67 x2 ∧ (((M 67 (ix x2)) ≠ 0 → D5_aloneBits_c26 (D5_aloneBits_c4 Q n) Q x1 x2 (0 : Int32) M) ∧ ((M 67 (ix x2)) = 0 → D5_aloneBits_c26 (D5_aloneBits_c4 Q n) Q x1 x2 (1 : Int32) M))))
def D5_aloneBits (M : MM) (Q : Int32 → MM → Prop) : Prop := D5_aloneBits_c4 Q FU (0 : Int32) (0 : Int32) M
set_option maxHeartbeats 4000000 in
set_option maxRecDepth 100000 in
theorem s5_aloneBits_c78 {G : GG} {K30 : Int32 → Int32 → Int32 → Int32 → MM → Prop} {K4 : Int32 → Int32 → MM → Prop} {Q : Int32 → MM → Prop} (hK30 : ∀ (x1 : Int32) (x2 : Int32) (x3 : Int32) (x4 : Int32) (M : MM), K30 x1 x2 x3 x4 M → A5_aloneBits G Q 30 [(0, .ref (gA G 62)), (1, .int x1), (2, .int x2), (3, .int x3), (4, .int x4)] [] M) (hK4 : ∀ (x1 : Int32) (x2 : Int32) (M : MM), K4 x1 x2 M → A5_aloneBits G Q 4 [(0, .ref (gA G 62)), (1, .int x1), (2, .int x2)] [] M) : ∀ (x1 : Int32) (x2 : Int32) (x4 : Int32) (s0 : Int32) (M : MM), D5_aloneBits_c78 K30 K4 Q x1 x2 x4 s0 M → A5_aloneBits G Q 78 [(0, .ref (gA G 62)), (1, .int x1), (2, .int x2), (4, .int x4)] [.int s0] M := by
  intro x1 x2 x4 s0 M h
  unfold D5_aloneBits_c78 at h
  refine a_istore_n (i := 3) (L' := [(3, .int _), (0, .ref _), (1, .int _), (2, .int _), (4, .int _)]) dX5_aloneBits_78 rfl (by decide) rfl ?_
  refine a_iinc (L' := [(4, .int _), (3, .int _), (0, .ref _), (1, .int _), (2, .int _)]) dX5_aloneBits_79 4 rfl (show _ + Int32.ofInt (1 : Int) = _ + (1 : Int32) from rfl) (by decide) rfl ?_
  refine a_goto (tgt := 30) dX5_aloneBits_82 (by decide) ?_
  refine a_sub [2, 3, 4, 1, 0] rfl ?_
  exact hK30 _ _ _ _ _ h
set_option maxHeartbeats 4000000 in
set_option maxRecDepth 100000 in
theorem s5_aloneBits_c73 {G : GG} {K30 : Int32 → Int32 → Int32 → Int32 → MM → Prop} {K4 : Int32 → Int32 → MM → Prop} {Q : Int32 → MM → Prop} (hK30 : ∀ (x1 : Int32) (x2 : Int32) (x3 : Int32) (x4 : Int32) (M : MM), K30 x1 x2 x3 x4 M → A5_aloneBits G Q 30 [(0, .ref (gA G 62)), (1, .int x1), (2, .int x2), (3, .int x3), (4, .int x4)] [] M) (hK4 : ∀ (x1 : Int32) (x2 : Int32) (M : MM), K4 x1 x2 M → A5_aloneBits G Q 4 [(0, .ref (gA G 62)), (1, .int x1), (2, .int x2)] [] M) : ∀ (x1 : Int32) (x2 : Int32) (x4 : Int32) (M : MM), D5_aloneBits_c73 K30 K4 Q x1 x2 x4 M → A5_aloneBits G Q 73 [(0, .ref (gA G 62)), (1, .int x1), (2, .int x2), (4, .int x4)] [] M := by
  intro x1 x2 x4 M h
  unfold D5_aloneBits_c73 at h
  refine a_iconst (v := 1) dX5_aloneBits_73 (by decide) ?_
  refine a_goto (tgt := 78) dX5_aloneBits_74 (by decide) ?_
  refine a_sub [0, 1, 2, 3] rfl ?_
  exact s5_aloneBits_c78 hK30 hK4 _ _ _ _ _ h
set_option maxHeartbeats 4000000 in
set_option maxRecDepth 100000 in
theorem s5_aloneBits_c77 {G : GG} {K30 : Int32 → Int32 → Int32 → Int32 → MM → Prop} {K4 : Int32 → Int32 → MM → Prop} {Q : Int32 → MM → Prop} (hK30 : ∀ (x1 : Int32) (x2 : Int32) (x3 : Int32) (x4 : Int32) (M : MM), K30 x1 x2 x3 x4 M → A5_aloneBits G Q 30 [(0, .ref (gA G 62)), (1, .int x1), (2, .int x2), (3, .int x3), (4, .int x4)] [] M) (hK4 : ∀ (x1 : Int32) (x2 : Int32) (M : MM), K4 x1 x2 M → A5_aloneBits G Q 4 [(0, .ref (gA G 62)), (1, .int x1), (2, .int x2)] [] M) : ∀ (x1 : Int32) (x2 : Int32) (x4 : Int32) (M : MM), D5_aloneBits_c77 K30 K4 Q x1 x2 x4 M → A5_aloneBits G Q 77 [(0, .ref (gA G 62)), (1, .int x1), (2, .int x2), (4, .int x4)] [] M := by
  intro x1 x2 x4 M h
  unfold D5_aloneBits_c77 at h
  refine a_iconst (v := 0) dX5_aloneBits_77 (by decide) ?_
  refine a_sub [0, 1, 2, 3] rfl ?_
  exact s5_aloneBits_c78 hK30 hK4 _ _ _ _ _ h
set_option maxHeartbeats 4000000 in
set_option maxRecDepth 100000 in
theorem s5_aloneBits_c97 {G : GG} {K4 : Int32 → Int32 → MM → Prop} {Q : Int32 → MM → Prop} (hK4 : ∀ (x1 : Int32) (x2 : Int32) (M : MM), K4 x1 x2 M → A5_aloneBits G Q 4 [(0, .ref (gA G 62)), (1, .int x1), (2, .int x2)] [] M) : ∀ (x2 : Int32) (s0 : Int32) (s1 : Int32) (M : MM), D5_aloneBits_c97 K4 Q x2 s0 s1 M → A5_aloneBits G Q 97 [(0, .ref (gA G 62)), (2, .int x2)] [.int s0, .int s1] M := by
  intro x2 s0 s1 M h
  unfold D5_aloneBits_c97 at h
  refine a_ior dX5_aloneBits_97 ?_
  refine a_istore_n (i := 1) (L' := [(1, .int _), (0, .ref _), (2, .int _)]) dX5_aloneBits_98 rfl (by decide) rfl ?_
  refine a_iinc (L' := [(2, .int _), (1, .int _), (0, .ref _)]) dX5_aloneBits_99 2 rfl (show _ + Int32.ofInt (1 : Int) = _ + (1 : Int32) from rfl) (by decide) rfl ?_
  refine a_goto (tgt := 4) dX5_aloneBits_102 (by decide) ?_
  refine a_sub [2, 1, 0] rfl ?_
  exact hK4 _ _ _ h
set_option maxHeartbeats 4000000 in
set_option maxRecDepth 100000 in
theorem s5_aloneBits_c85 {G : GG} {K4 : Int32 → Int32 → MM → Prop} {Q : Int32 → MM → Prop} (hK4 : ∀ (x1 : Int32) (x2 : Int32) (M : MM), K4 x1 x2 M → A5_aloneBits G Q 4 [(0, .ref (gA G 62)), (1, .int x1), (2, .int x2)] [] M) : ∀ (x1 : Int32) (x2 : Int32) (x3 : Int32) (M : MM), D5_aloneBits_c85 K4 Q x1 x2 x3 M → A5_aloneBits G Q 85 [(0, .ref (gA G 62)), (1, .int x1), (2, .int x2), (3, .int x3)] [] M := by
  intro x1 x2 x3 M h
  unfold D5_aloneBits_c85 at h
  refine a_iload_n dX5_aloneBits_85 1 rfl ?_
  refine a_iload_n dX5_aloneBits_86 3 rfl ?_
  refine a_if_eq (tgt := 96) dX5_aloneBits_87 (by decide) (fun c => ?_) (fun c => ?_)
  · have h := h.1 c
    refine a_iconst (v := 0) dX5_aloneBits_96 (by decide) ?_
    refine a_sub [0, 2] rfl ?_
    exact s5_aloneBits_c97 hK4 _ _ _ _ h
  · have h := h.2 c
    refine a_iconst (v := 1) dX5_aloneBits_90 (by decide) ?_
    refine a_iload_n dX5_aloneBits_91 2 rfl ?_
    refine a_ishl dX5_aloneBits_92 ?_
    refine a_goto (tgt := 97) dX5_aloneBits_93 (by decide) ?_
    refine a_sub [0, 2] rfl ?_
    exact s5_aloneBits_c97 hK4 _ _ _ _ h
set_option maxHeartbeats 4000000 in
set_option maxRecDepth 100000 in
theorem s5_aloneBits_c30 {G : GG} {K4 : Int32 → Int32 → MM → Prop} {Q : Int32 → MM → Prop} (hK4 : ∀ (x1 : Int32) (x2 : Int32) (M : MM), K4 x1 x2 M → A5_aloneBits G Q 4 [(0, .ref (gA G 62)), (1, .int x1), (2, .int x2)] [] M) : ∀ (n : Nat) (x1 : Int32) (x2 : Int32) (x3 : Int32) (x4 : Int32) (M : MM), D5_aloneBits_c30 K4 Q n x1 x2 x3 x4 M → A5_aloneBits G Q 30 [(0, .ref (gA G 62)), (1, .int x1), (2, .int x2), (3, .int x3), (4, .int x4)] [] M := by
  intro n
  induction n with
  | zero => intro x1 x2 x3 x4 M h; exact h.elim
  | succ n ih =>
    intro x1 x2 x3 x4 M h
    unfold D5_aloneBits_c30 at h
    refine a_iload dX5_aloneBits_30 4 rfl ?_
    refine a_aload_n dX5_aloneBits_32 0 rfl ?_
    refine a_get3 dX5_aloneBits_33 0 (by decide) (tbc _ kF_RX5_77) (fun w h => tbc _ (uW3 w h)) rfl ob_62 rfl ?_
    refine a_icmp_ge (tgt := 85) dX5_aloneBits_36 (by decide) (fun c => ?_) (fun c => ?_)
    · have h := h.1 c
      refine a_sub [0, 1, 2, 3] rfl ?_
      exact s5_aloneBits_c85 hK4 _ _ _ _ h
    · have h := h.2 c
      refine a_iload_n dX5_aloneBits_39 3 rfl ?_
      refine a_if_eq (tgt := 77) dX5_aloneBits_40 (by decide) (fun c => ?_) (fun c => ?_)
      · have h := h.1 c
        refine a_sub [0, 1, 2, 4] rfl ?_
        exact s5_aloneBits_c77 ih hK4 _ _ _ _ h
      · have h := h.2 c
        refine a_aload_n dX5_aloneBits_43 0 rfl ?_
        refine a_get3 dX5_aloneBits_44 5 (by decide) (tbc _ kF_RX5_22) (fun w h => tbc _ (uW3 w h)) rfl ob_62 rfl ?_
        refine a_iload dX5_aloneBits_47 4 rfl ?_
        refine a_iald dX5_aloneBits_49 h.1 ?_
        have h := h.2
        refine a_iconst (v := 1) dX5_aloneBits_50 (by decide) ?_
        refine a_icmp_eq (tgt := 73) dX5_aloneBits_51 (by decide) (fun c => ?_) (fun c => ?_)
        · have h := h.1 c
          refine a_sub [0, 1, 2, 4] rfl ?_
          exact s5_aloneBits_c73 ih hK4 _ _ _ _ h
        · have h := h.2 c
          refine a_aload_n dX5_aloneBits_54 0 rfl ?_
          refine a_get3 dX5_aloneBits_55 3 (by decide) (tbc _ kF_RX5_16) (fun w h => tbc _ (uW3 w h)) rfl ob_62 rfl ?_
          refine a_iload_n dX5_aloneBits_58 2 rfl ?_
          refine a_iald dX5_aloneBits_59 h.1 ?_
          have h := h.2
          refine a_aload_n dX5_aloneBits_60 0 rfl ?_
          refine a_get3 dX5_aloneBits_61 3 (by decide) (tbc _ kF_RX5_16) (fun w h => tbc _ (uW3 w h)) rfl ob_62 rfl ?_
          refine a_iload dX5_aloneBits_64 4 rfl ?_
          refine a_iald dX5_aloneBits_66 h.1 ?_
          have h := h.2
          refine a_callSi (n := 2) [.int _, .int _] dX5_aloneBits_67 (s5_areBeside h) (gS tbc kM_RX5_317_X5_areBeside kT_X5_areBeside kN_RX5 kC_X5_areBeside) rfl (by decide +kernel) ⟨Nat.le_of_ble_eq_true rfl, Nat.le_of_ble_eq_true rfl⟩ rfl rfl (Nat.le_of_ble_eq_true rfl) ⟨Nat.le_refl 0, Nat.le_refl 0⟩ (fun r M h => ?_)
          refine a_if_ne (tgt := 77) dX5_aloneBits_70 (by decide) (fun c => ?_) (fun c => ?_)
          · have h := h.1 c
            refine a_sub [0, 1, 2, 4] rfl ?_
            exact s5_aloneBits_c77 ih hK4 _ _ _ _ h
          · have h := h.2 c
            refine a_sub [0, 1, 2, 4] rfl ?_
            exact s5_aloneBits_c73 ih hK4 _ _ _ _ h
set_option maxHeartbeats 4000000 in
set_option maxRecDepth 100000 in
theorem s5_aloneBits_c26 {G : GG} {K4 : Int32 → Int32 → MM → Prop} {Q : Int32 → MM → Prop} (hK4 : ∀ (x1 : Int32) (x2 : Int32) (M : MM), K4 x1 x2 M → A5_aloneBits G Q 4 [(0, .ref (gA G 62)), (1, .int x1), (2, .int x2)] [] M) : ∀ (x1 : Int32) (x2 : Int32) (s0 : Int32) (M : MM), D5_aloneBits_c26 K4 Q x1 x2 s0 M → A5_aloneBits G Q 26 [(0, .ref (gA G 62)), (1, .int x1), (2, .int x2)] [.int s0] M := by
  intro x1 x2 s0 M h
  unfold D5_aloneBits_c26 at h
  refine a_istore_n (i := 3) (L' := [(3, .int _), (0, .ref _), (1, .int _), (2, .int _)]) dX5_aloneBits_26 rfl (by decide) rfl ?_
  refine a_iconst (v := 0) dX5_aloneBits_27 (by decide) ?_
  refine a_istore (i := 4) (L' := [(4, .int _), (3, .int _), (0, .ref _), (1, .int _), (2, .int _)]) dX5_aloneBits_28 (by decide) rfl ?_
  refine a_sub [2, 3, 4, 1, 0] rfl ?_
  exact s5_aloneBits_c30 hK4 _ _ _ _ _ _ h
set_option maxHeartbeats 4000000 in
set_option maxRecDepth 100000 in
theorem s5_aloneBits_c4 {G : GG} {Q : Int32 → MM → Prop} : ∀ (n : Nat) (x1 : Int32) (x2 : Int32) (M : MM), D5_aloneBits_c4 Q n x1 x2 M → A5_aloneBits G Q 4 [(0, .ref (gA G 62)), (1, .int x1), (2, .int x2)] [] M := by
  intro n
  induction n with
  | zero => intro x1 x2 M h; exact h.elim
  | succ n ih =>
    intro x1 x2 M h
    unfold D5_aloneBits_c4 at h
    refine a_iload_n dX5_aloneBits_4 2 rfl ?_
    refine a_aload_n dX5_aloneBits_5 0 rfl ?_
    refine a_get3 dX5_aloneBits_6 0 (by decide) (tbc _ kF_RX5_77) (fun w h => tbc _ (uW3 w h)) rfl ob_62 rfl ?_
    refine a_icmp_ge (tgt := 105) dX5_aloneBits_9 (by decide) (fun c => ?_) (fun c => ?_)
    · have h := h.1 c
      refine a_iload_n dX5_aloneBits_105 1 rfl ?_
      exact a_iret dX5_aloneBits_106 ⟨_, rfl, h⟩
    · have h := h.2 c
      refine a_aload_n dX5_aloneBits_12 0 rfl ?_
      refine a_get3 dX5_aloneBits_13 5 (by decide) (tbc _ kF_RX5_22) (fun w h => tbc _ (uW3 w h)) rfl ob_62 rfl ?_
      refine a_iload_n dX5_aloneBits_16 2 rfl ?_
      refine a_iald dX5_aloneBits_17 h.1 ?_
      have h := h.2
      refine a_if_ne (tgt := 25) dX5_aloneBits_18 (by decide) (fun c => ?_) (fun c => ?_)
      · have h := h.1 c
        refine a_iconst (v := 0) dX5_aloneBits_25 (by decide) ?_
        refine a_sub [0, 1, 2] rfl ?_
        exact s5_aloneBits_c26 ih _ _ _ _ h
      · have h := h.2 c
        refine a_iconst (v := 1) dX5_aloneBits_21 (by decide) ?_
        refine a_goto (tgt := 26) dX5_aloneBits_22 (by decide) ?_
        refine a_sub [0, 1, 2] rfl ?_
        exact s5_aloneBits_c26 ih _ _ _ _ h
set_option maxHeartbeats 4000000 in
set_option maxRecDepth 100000 in
theorem s5_aloneBits {G : GG} {M : MM} {Q : Int32 → MM → Prop} (h : D5_aloneBits M Q) : CM G yX5_aloneBits (WY yX5_aloneBits cX5_aloneBits 5 (some .int)) 1 23 [.ref (gA G 62)] M (qI Q) := by
  refine CM.of (cc := cX5_aloneBits) (nL := 5) (ret := (some .int)) (own := RX5) (by decide +kernel) rfl rfl (Nat.le_of_ble_eq_true rfl) ?_
  show A5_aloneBits G Q 0 [(0, .ref (gA G 62))] [] M
  unfold D5_aloneBits at h
  refine a_iconst (v := 0) dX5_aloneBits_0 (by decide) ?_
  refine a_istore_n (i := 1) (L' := [(1, .int _), (0, .ref _)]) dX5_aloneBits_1 rfl (by decide) rfl ?_
  refine a_iconst (v := 0) dX5_aloneBits_2 (by decide) ?_
  refine a_istore_n (i := 2) (L' := [(2, .int _), (1, .int _), (0, .ref _)]) dX5_aloneBits_3 rfl (by decide) rfl ?_
  refine a_sub [2, 1, 0] rfl ?_
  exact s5_aloneBits_c4 _ _ _ _ h

/-! X5_standing -/
theorem dX5_standing_0 : decode cX5_standing 0 = .ok (.iconst 0, 1) := by decide +kernel
theorem dX5_standing_1 : decode cX5_standing 1 = .ok (.istore_n 1, 1) := by decide +kernel
theorem dX5_standing_2 : decode cX5_standing 2 = .ok (.iconst 0, 1) := by decide +kernel
theorem dX5_standing_3 : decode cX5_standing 3 = .ok (.istore_n 2, 1) := by decide +kernel
theorem dX5_standing_4 : decode cX5_standing 4 = .ok (.iload_n 2, 1) := by decide +kernel
theorem dX5_standing_5 : decode cX5_standing 5 = .ok (.aload_n 0, 1) := by decide +kernel
theorem dX5_standing_6 : decode cX5_standing 6 = .ok (.getfield 77, 3) := by decide +kernel
theorem dX5_standing_9 : decode cX5_standing 9 = .ok (.if_icmp .ge 28, 3) := by decide +kernel
theorem dX5_standing_12 : decode cX5_standing 12 = .ok (.iload_n 1, 1) := by decide +kernel
theorem dX5_standing_13 : decode cX5_standing 13 = .ok (.aload_n 0, 1) := by decide +kernel
theorem dX5_standing_14 : decode cX5_standing 14 = .ok (.getfield 22, 3) := by decide +kernel
theorem dX5_standing_17 : decode cX5_standing 17 = .ok (.iload_n 2, 1) := by decide +kernel
theorem dX5_standing_18 : decode cX5_standing 18 = .ok (.iaload, 1) := by decide +kernel
theorem dX5_standing_19 : decode cX5_standing 19 = .ok (.ifCond .ne 9, 3) := by decide +kernel
theorem dX5_standing_22 : decode cX5_standing 22 = .ok (.iconst 1, 1) := by decide +kernel
theorem dX5_standing_23 : decode cX5_standing 23 = .ok (.iload_n 2, 1) := by decide +kernel
theorem dX5_standing_24 : decode cX5_standing 24 = .ok (.ishl, 1) := by decide +kernel
theorem dX5_standing_25 : decode cX5_standing 25 = .ok (.goto 4, 3) := by decide +kernel
theorem dX5_standing_28 : decode cX5_standing 28 = .ok (.iconst 0, 1) := by decide +kernel
theorem dX5_standing_29 : decode cX5_standing 29 = .ok (.ior, 1) := by decide +kernel
theorem dX5_standing_30 : decode cX5_standing 30 = .ok (.istore_n 1, 1) := by decide +kernel
theorem dX5_standing_31 : decode cX5_standing 31 = .ok (.iinc 2 1, 3) := by decide +kernel
theorem dX5_standing_34 : decode cX5_standing 34 = .ok (.goto (-30), 3) := by decide +kernel
theorem dX5_standing_37 : decode cX5_standing 37 = .ok (.iload_n 1, 1) := by decide +kernel
theorem dX5_standing_38 : decode cX5_standing 38 = .ok (.ireturn, 1) := by decide +kernel
abbrev A5_standing (G : GG) (Q : Int32 → MM → Prop) := AW G E0 (MZ G (qI Q)) (WY yX5_standing cX5_standing 3 (some .int)) RX5 cX5_standing 3 (some .int) ({ frames := 0, cells := 0, slots := 0, locals := 0 } : Room) 0 0
def D5_standing_c29 (K4 : Int32 → Int32 → MM → Prop) (Q : Int32 → MM → Prop) (x2 : Int32) (s0 : Int32) (s1 : Int32) (M : MM) : Prop := (fun v1 : Int32 => (fun v2 : Int32 => K4 v1 v2 M) (x2 + (1 : Int32))) (s1 ||| s0)
def D5_standing_c4 (Q : Int32 → MM → Prop) : Nat → Int32 → Int32 → MM → Prop
  | 0, _, _, _ => False
  | n + 1, x1, x2, M => (((M 62 0) ≤ x2 → Q x1 M) ∧ (¬ (M 62 0) ≤ x2 → ib 67 x2 ∧ (((M 67 (ix x2)) ≠ 0 → D5_standing_c29 (D5_standing_c4 Q n) Q x2 (0 : Int32) x1 M) ∧ ((M 67 (ix x2)) = 0 → D5_standing_c29 (D5_standing_c4 Q n) Q x2 ((1 : Int32) <<< (x2 &&& 31)) x1 M))))
def D5_standing (M : MM) (Q : Int32 → MM → Prop) : Prop := D5_standing_c4 Q FU (0 : Int32) (0 : Int32) M
set_option maxHeartbeats 4000000 in
set_option maxRecDepth 100000 in
theorem s5_standing_c29 {G : GG} {K4 : Int32 → Int32 → MM → Prop} {Q : Int32 → MM → Prop} (hK4 : ∀ (x1 : Int32) (x2 : Int32) (M : MM), K4 x1 x2 M → A5_standing G Q 4 [(0, .ref (gA G 62)), (1, .int x1), (2, .int x2)] [] M) : ∀ (x2 : Int32) (s0 : Int32) (s1 : Int32) (M : MM), D5_standing_c29 K4 Q x2 s0 s1 M → A5_standing G Q 29 [(0, .ref (gA G 62)), (2, .int x2)] [.int s0, .int s1] M := by
  intro x2 s0 s1 M h
  unfold D5_standing_c29 at h
  refine a_ior dX5_standing_29 ?_
  refine a_istore_n (i := 1) (L' := [(1, .int _), (0, .ref _), (2, .int _)]) dX5_standing_30 rfl (by decide) rfl ?_
  refine a_iinc (L' := [(2, .int _), (1, .int _), (0, .ref _)]) dX5_standing_31 2 rfl (show _ + Int32.ofInt (1 : Int) = _ + (1 : Int32) from rfl) (by decide) rfl ?_
  refine a_goto (tgt := 4) dX5_standing_34 (by decide) ?_
  refine a_sub [2, 1, 0] rfl ?_
  exact hK4 _ _ _ h
set_option maxHeartbeats 4000000 in
set_option maxRecDepth 100000 in
theorem s5_standing_c4 {G : GG} {Q : Int32 → MM → Prop} : ∀ (n : Nat) (x1 : Int32) (x2 : Int32) (M : MM), D5_standing_c4 Q n x1 x2 M → A5_standing G Q 4 [(0, .ref (gA G 62)), (1, .int x1), (2, .int x2)] [] M := by
  intro n
  induction n with
  | zero => intro x1 x2 M h; exact h.elim
  | succ n ih =>
    intro x1 x2 M h
    unfold D5_standing_c4 at h
    refine a_iload_n dX5_standing_4 2 rfl ?_
    refine a_aload_n dX5_standing_5 0 rfl ?_
    refine a_get3 dX5_standing_6 0 (by decide) (tbc _ kF_RX5_77) (fun w h => tbc _ (uW3 w h)) rfl ob_62 rfl ?_
    refine a_icmp_ge (tgt := 37) dX5_standing_9 (by decide) (fun c => ?_) (fun c => ?_)
    · have h := h.1 c
      refine a_iload_n dX5_standing_37 1 rfl ?_
      exact a_iret dX5_standing_38 ⟨_, rfl, h⟩
    · have h := h.2 c
      refine a_iload_n dX5_standing_12 1 rfl ?_
      refine a_aload_n dX5_standing_13 0 rfl ?_
      refine a_get3 dX5_standing_14 5 (by decide) (tbc _ kF_RX5_22) (fun w h => tbc _ (uW3 w h)) rfl ob_62 rfl ?_
      refine a_iload_n dX5_standing_17 2 rfl ?_
      refine a_iald dX5_standing_18 h.1 ?_
      have h := h.2
      refine a_if_ne (tgt := 28) dX5_standing_19 (by decide) (fun c => ?_) (fun c => ?_)
      · have h := h.1 c
        refine a_iconst (v := 0) dX5_standing_28 (by decide) ?_
        refine a_sub [0, 2] rfl ?_
        exact s5_standing_c29 ih _ _ _ _ h
      · have h := h.2 c
        refine a_iconst (v := 1) dX5_standing_22 (by decide) ?_
        refine a_iload_n dX5_standing_23 2 rfl ?_
        refine a_ishl dX5_standing_24 ?_
        refine a_goto (tgt := 29) dX5_standing_25 (by decide) ?_
        refine a_sub [0, 2] rfl ?_
        exact s5_standing_c29 ih _ _ _ _ h
set_option maxHeartbeats 4000000 in
set_option maxRecDepth 100000 in
theorem s5_standing {G : GG} {M : MM} {Q : Int32 → MM → Prop} (h : D5_standing M Q) : CM G yX5_standing (WY yX5_standing cX5_standing 3 (some .int)) 0 0 [.ref (gA G 62)] M (qI Q) := by
  refine CM.of (cc := cX5_standing) (nL := 3) (ret := (some .int)) (own := RX5) (by decide +kernel) rfl rfl (Nat.le_of_ble_eq_true rfl) ?_
  show A5_standing G Q 0 [(0, .ref (gA G 62))] [] M
  unfold D5_standing at h
  refine a_iconst (v := 0) dX5_standing_0 (by decide) ?_
  refine a_istore_n (i := 1) (L' := [(1, .int _), (0, .ref _)]) dX5_standing_1 rfl (by decide) rfl ?_
  refine a_iconst (v := 0) dX5_standing_2 (by decide) ?_
  refine a_istore_n (i := 2) (L' := [(2, .int _), (1, .int _), (0, .ref _)]) dX5_standing_3 rfl (by decide) rfl ?_
  refine a_sub [2, 1, 0] rfl ?_
  exact s5_standing_c4 _ _ _ _ h

/-! X5_hasBit -/
theorem dX5_hasBit_0 : decode cX5_hasBit 0 = .ok (.iload_n 0, 1) := by decide +kernel
theorem dX5_hasBit_1 : decode cX5_hasBit 1 = .ok (.iload_n 1, 1) := by decide +kernel
theorem dX5_hasBit_2 : decode cX5_hasBit 2 = .ok (.ishr, 1) := by decide +kernel
theorem dX5_hasBit_3 : decode cX5_hasBit 3 = .ok (.iconst 1, 1) := by decide +kernel
theorem dX5_hasBit_4 : decode cX5_hasBit 4 = .ok (.iand, 1) := by decide +kernel
theorem dX5_hasBit_5 : decode cX5_hasBit 5 = .ok (.iconst 1, 1) := by decide +kernel
theorem dX5_hasBit_6 : decode cX5_hasBit 6 = .ok (.if_icmp .ne 7, 3) := by decide +kernel
theorem dX5_hasBit_9 : decode cX5_hasBit 9 = .ok (.iconst 1, 1) := by decide +kernel
theorem dX5_hasBit_10 : decode cX5_hasBit 10 = .ok (.goto 4, 3) := by decide +kernel
theorem dX5_hasBit_13 : decode cX5_hasBit 13 = .ok (.iconst 0, 1) := by decide +kernel
theorem dX5_hasBit_14 : decode cX5_hasBit 14 = .ok (.ireturn, 1) := by decide +kernel
abbrev A5_hasBit (G : GG) (Q : Int32 → MM → Prop) := AW G E0 (MZ G (qI Q)) (WY yX5_hasBit cX5_hasBit 2 (some .boolean)) RX5 cX5_hasBit 2 (some .boolean) ({ frames := 0, cells := 0, slots := 0, locals := 0 } : Room) 0 0
def D5_hasBit (x0 : Int32) (x1 : Int32) (M : MM) (Q : Int32 → MM → Prop) : Prop := ((((x0 >>> (x1 &&& 31)) &&& (1 : Int32)) ≠ (1 : Int32) → Q (0 : Int32) M) ∧ (((x0 >>> (x1 &&& 31)) &&& (1 : Int32)) = (1 : Int32) → Q (1 : Int32) M))
set_option maxHeartbeats 4000000 in
set_option maxRecDepth 100000 in
theorem s5_hasBit {G : GG} {x0 : Int32} {x1 : Int32} {M : MM} {Q : Int32 → MM → Prop} (h : D5_hasBit x0 x1 M Q) : CM G yX5_hasBit (WY yX5_hasBit cX5_hasBit 2 (some .boolean)) 0 0 [.int x0, .int x1] M (qI Q) := by
  refine CM.of (cc := cX5_hasBit) (nL := 2) (ret := (some .boolean)) (own := RX5) (by decide +kernel) rfl rfl (Nat.le_of_ble_eq_true rfl) ?_
  show A5_hasBit G Q 0 [(0, .int x0), (1, .int x1)] [] M
  unfold D5_hasBit at h
  refine a_iload_n dX5_hasBit_0 0 rfl ?_
  refine a_iload_n dX5_hasBit_1 1 rfl ?_
  refine a_ishr dX5_hasBit_2 ?_
  refine a_iconst (v := 1) dX5_hasBit_3 (by decide) ?_
  refine a_iand dX5_hasBit_4 ?_
  refine a_iconst (v := 1) dX5_hasBit_5 (by decide) ?_
  refine a_icmp_ne (tgt := 13) dX5_hasBit_6 (by decide) (fun c => ?_) (fun c => ?_)
  · have h := h.1 c
    refine a_iconst (v := 0) dX5_hasBit_13 (by decide) ?_
    exact a_zret dX5_hasBit_14 (Or.inl rfl) ⟨_, rfl, h⟩
  · have h := h.2 c
    refine a_iconst (v := 1) dX5_hasBit_9 (by decide) ?_
    refine a_goto (tgt := 14) dX5_hasBit_10 (by decide) ?_
    exact a_zret dX5_hasBit_14 (Or.inr rfl) ⟨_, rfl, h⟩

/-! X5_rateOf -/
theorem dX5_rateOf_0 : decode cX5_rateOf 0 = .ok (.aload_n 0, 1) := by decide +kernel
theorem dX5_rateOf_1 : decode cX5_rateOf 1 = .ok (.getfield 13, 3) := by decide +kernel
theorem dX5_rateOf_4 : decode cX5_rateOf 4 = .ok (.iload_n 1, 1) := by decide +kernel
theorem dX5_rateOf_5 : decode cX5_rateOf 5 = .ok (.iaload, 1) := by decide +kernel
theorem dX5_rateOf_6 : decode cX5_rateOf 6 = .ok (.istore_n 2, 1) := by decide +kernel
theorem dX5_rateOf_7 : decode cX5_rateOf 7 = .ok (.aload_n 0, 1) := by decide +kernel
theorem dX5_rateOf_8 : decode cX5_rateOf 8 = .ok (.getfield 7, 3) := by decide +kernel
theorem dX5_rateOf_11 : decode cX5_rateOf 11 = .ok (.iload_n 1, 1) := by decide +kernel
theorem dX5_rateOf_12 : decode cX5_rateOf 12 = .ok (.iaload, 1) := by decide +kernel
theorem dX5_rateOf_13 : decode cX5_rateOf 13 = .ok (.tableswitch 57 0 4 #[35, 37, 42, 44, 54], 35) := by decide +kernel
theorem dX5_rateOf_48 : decode cX5_rateOf 48 = .ok (.iload_n 2, 1) := by decide +kernel
theorem dX5_rateOf_49 : decode cX5_rateOf 49 = .ok (.ireturn, 1) := by decide +kernel
theorem dX5_rateOf_50 : decode cX5_rateOf 50 = .ok (.iload_n 2, 1) := by decide +kernel
theorem dX5_rateOf_51 : decode cX5_rateOf 51 = .ok (.bipush 10, 2) := by decide +kernel
theorem dX5_rateOf_53 : decode cX5_rateOf 53 = .ok (.iadd, 1) := by decide +kernel
theorem dX5_rateOf_54 : decode cX5_rateOf 54 = .ok (.ireturn, 1) := by decide +kernel
theorem dX5_rateOf_55 : decode cX5_rateOf 55 = .ok (.iconst 5, 1) := by decide +kernel
theorem dX5_rateOf_56 : decode cX5_rateOf 56 = .ok (.ireturn, 1) := by decide +kernel
theorem dX5_rateOf_57 : decode cX5_rateOf 57 = .ok (.iconst 3, 1) := by decide +kernel
theorem dX5_rateOf_58 : decode cX5_rateOf 58 = .ok (.iload_n 2, 1) := by decide +kernel
theorem dX5_rateOf_59 : decode cX5_rateOf 59 = .ok (.bipush 10, 2) := by decide +kernel
theorem dX5_rateOf_61 : decode cX5_rateOf 61 = .ok (.iadd, 1) := by decide +kernel
theorem dX5_rateOf_62 : decode cX5_rateOf 62 = .ok (.imul, 1) := by decide +kernel
theorem dX5_rateOf_63 : decode cX5_rateOf 63 = .ok (.bipush 10, 2) := by decide +kernel
theorem dX5_rateOf_65 : decode cX5_rateOf 65 = .ok (.isub, 1) := by decide +kernel
theorem dX5_rateOf_66 : decode cX5_rateOf 66 = .ok (.ireturn, 1) := by decide +kernel
theorem dX5_rateOf_67 : decode cX5_rateOf 67 = .ok (.bipush 20, 2) := by decide +kernel
theorem dX5_rateOf_69 : decode cX5_rateOf 69 = .ok (.ireturn, 1) := by decide +kernel
theorem dX5_rateOf_70 : decode cX5_rateOf 70 = .ok (.iconst 2, 1) := by decide +kernel
theorem dX5_rateOf_71 : decode cX5_rateOf 71 = .ok (.iconst 3, 1) := by decide +kernel
theorem dX5_rateOf_72 : decode cX5_rateOf 72 = .ok (.iload_n 2, 1) := by decide +kernel
theorem dX5_rateOf_73 : decode cX5_rateOf 73 = .ok (.bipush 10, 2) := by decide +kernel
theorem dX5_rateOf_75 : decode cX5_rateOf 75 = .ok (.iadd, 1) := by decide +kernel
theorem dX5_rateOf_76 : decode cX5_rateOf 76 = .ok (.imul, 1) := by decide +kernel
theorem dX5_rateOf_77 : decode cX5_rateOf 77 = .ok (.bipush 10, 2) := by decide +kernel
theorem dX5_rateOf_79 : decode cX5_rateOf 79 = .ok (.isub, 1) := by decide +kernel
theorem dX5_rateOf_80 : decode cX5_rateOf 80 = .ok (.imul, 1) := by decide +kernel
theorem dX5_rateOf_81 : decode cX5_rateOf 81 = .ok (.ireturn, 1) := by decide +kernel
abbrev A5_rateOf (G : GG) (Q : Int32 → MM → Prop) := AW G E0 (MZ G (qI Q)) (WY yX5_rateOf cX5_rateOf 3 (some .int)) RX5 cX5_rateOf 3 (some .int) ({ frames := 0, cells := 0, slots := 0, locals := 0 } : Room) 0 0
def D5_rateOf (x1 : Int32) (M : MM) (Q : Int32 → MM → Prop) : Prop := ib 64 x1 ∧ (fun v1 : Int32 => ib 63 x1 ∧ (((M 63 (ix x1)) = 0 → Q v1 M) ∧ (¬ (M 63 (ix x1)) = 0 → (((M 63 (ix x1)) = 1 → Q (v1 + (10 : Int32)) M) ∧ (¬ (M 63 (ix x1)) = 1 → (((M 63 (ix x1)) = 2 → Q (5 : Int32) M) ∧ (¬ (M 63 (ix x1)) = 2 → (((M 63 (ix x1)) = 3 → Q (((3 : Int32) * (v1 + (10 : Int32))) - (10 : Int32)) M) ∧ (¬ (M 63 (ix x1)) = 3 → (((M 63 (ix x1)) = 4 → Q (20 : Int32) M) ∧ (¬ (M 63 (ix x1)) = 4 → Q ((2 : Int32) * (((3 : Int32) * (v1 + (10 : Int32))) - (10 : Int32))) M))))))))))) (M 64 (ix x1))
set_option maxHeartbeats 4000000 in
set_option maxRecDepth 100000 in
theorem s5_rateOf {G : GG} {x1 : Int32} {M : MM} {Q : Int32 → MM → Prop} (h : D5_rateOf x1 M Q) : CM G yX5_rateOf (WY yX5_rateOf cX5_rateOf 3 (some .int)) 0 0 [.ref (gA G 62), .int x1] M (qI Q) := by
  refine CM.of (cc := cX5_rateOf) (nL := 3) (ret := (some .int)) (own := RX5) (by decide +kernel) rfl rfl (Nat.le_of_ble_eq_true rfl) ?_
  show A5_rateOf G Q 0 [(0, .ref (gA G 62)), (1, .int x1)] [] M
  unfold D5_rateOf at h
  refine a_aload_n dX5_rateOf_0 0 rfl ?_
  refine a_get3 dX5_rateOf_1 2 (by decide) (tbc _ kF_RX5_13) (fun w h => tbc _ (uW3 w h)) rfl ob_62 rfl ?_
  refine a_iload_n dX5_rateOf_4 1 rfl ?_
  refine a_iald dX5_rateOf_5 h.1 ?_
  have h := h.2
  refine a_istore_n (i := 2) (L' := [(2, .int _), (0, .ref _), (1, .int _)]) dX5_rateOf_6 rfl (by decide) rfl ?_
  refine a_aload_n dX5_rateOf_7 1 rfl ?_
  refine a_get3 dX5_rateOf_8 1 (by decide) (tbc _ kF_RX5_7) (fun w h => tbc _ (uW3 w h)) rfl ob_62 rfl ?_
  refine a_iload_n dX5_rateOf_11 2 rfl ?_
  refine a_iald dX5_rateOf_12 h.1 ?_
  have h := h.2
  refine em_c h (fun c0 h => ?_) (fun c0 h => ?_)
  · refine a_tableIn (off := 35) (tgt := 48) dX5_rateOf_13 (by rw [c0]; decide) (by rw [c0]; decide) (by rw [c0]; rfl) (by decide) ?_
    refine a_iload_n dX5_rateOf_48 0 rfl ?_
    exact a_iret dX5_rateOf_49 ⟨_, rfl, h⟩
  · refine em_c h (fun c1 h => ?_) (fun c1 h => ?_)
    · refine a_tableIn (off := 37) (tgt := 50) dX5_rateOf_13 (by rw [c1]; decide) (by rw [c1]; decide) (by rw [c1]; rfl) (by decide) ?_
      refine a_iload_n dX5_rateOf_50 0 rfl ?_
      refine a_bipush (v := 10) dX5_rateOf_51 (by decide) ?_
      refine a_iadd dX5_rateOf_53 ?_
      exact a_iret dX5_rateOf_54 ⟨_, rfl, h⟩
    · refine em_c h (fun c2 h => ?_) (fun c2 h => ?_)
      · refine a_tableIn (off := 42) (tgt := 55) dX5_rateOf_13 (by rw [c2]; decide) (by rw [c2]; decide) (by rw [c2]; rfl) (by decide) ?_
        refine a_iconst (v := 5) dX5_rateOf_55 (by decide) ?_
        exact a_iret dX5_rateOf_56 ⟨_, rfl, h⟩
      · refine em_c h (fun c3 h => ?_) (fun c3 h => ?_)
        · refine a_tableIn (off := 44) (tgt := 57) dX5_rateOf_13 (by rw [c3]; decide) (by rw [c3]; decide) (by rw [c3]; rfl) (by decide) ?_
          refine a_iconst (v := 3) dX5_rateOf_57 (by decide) ?_
          refine a_iload_n dX5_rateOf_58 0 rfl ?_
          refine a_bipush (v := 10) dX5_rateOf_59 (by decide) ?_
          refine a_iadd dX5_rateOf_61 ?_
          refine a_imul dX5_rateOf_62 ?_
          refine a_bipush (v := 10) dX5_rateOf_63 (by decide) ?_
          refine a_isub dX5_rateOf_65 ?_
          exact a_iret dX5_rateOf_66 ⟨_, rfl, h⟩
        · refine em_c h (fun c4 h => ?_) (fun c4 h => ?_)
          · refine a_tableIn (off := 54) (tgt := 67) dX5_rateOf_13 (by rw [c4]; decide) (by rw [c4]; decide) (by rw [c4]; rfl) (by decide) ?_
            refine a_bipush (v := 20) dX5_rateOf_67 (by decide) ?_
            exact a_iret dX5_rateOf_69 ⟨_, rfl, h⟩
          · refine a_tableD (tgt := 70) dX5_rateOf_13 (by decide) (fun k h1 h2 e => by have hk : k = 0 ∨ k = 1 ∨ k = 2 ∨ k = 3 ∨ k = 4 := (by omega); rcases hk with rfl | rfl | rfl | rfl | rfl <;> first | rfl | exact absurd e (ne_ti c0 (by decide)) | exact absurd e (ne_ti c1 (by decide)) | exact absurd e (ne_ti c2 (by decide)) | exact absurd e (ne_ti c3 (by decide)) | exact absurd e (ne_ti c4 (by decide))) ?_
            refine a_iconst (v := 2) dX5_rateOf_70 (by decide) ?_
            refine a_iconst (v := 3) dX5_rateOf_71 (by decide) ?_
            refine a_iload_n dX5_rateOf_72 0 rfl ?_
            refine a_bipush (v := 10) dX5_rateOf_73 (by decide) ?_
            refine a_iadd dX5_rateOf_75 ?_
            refine a_imul dX5_rateOf_76 ?_
            refine a_bipush (v := 10) dX5_rateOf_77 (by decide) ?_
            refine a_isub dX5_rateOf_79 ?_
            refine a_imul dX5_rateOf_80 ?_
            exact a_iret dX5_rateOf_81 ⟨_, rfl, h⟩

/-! X5_ratesIn -/
theorem dX5_ratesIn_0 : decode cX5_ratesIn 0 = .ok (.iconst 0, 1) := by decide +kernel
theorem dX5_ratesIn_1 : decode cX5_ratesIn 1 = .ok (.istore_n 2, 1) := by decide +kernel
theorem dX5_ratesIn_2 : decode cX5_ratesIn 2 = .ok (.iconst 0, 1) := by decide +kernel
theorem dX5_ratesIn_3 : decode cX5_ratesIn 3 = .ok (.istore_n 3, 1) := by decide +kernel
theorem dX5_ratesIn_4 : decode cX5_ratesIn 4 = .ok (.iload_n 3, 1) := by decide +kernel
theorem dX5_ratesIn_5 : decode cX5_ratesIn 5 = .ok (.aload_n 0, 1) := by decide +kernel
theorem dX5_ratesIn_6 : decode cX5_ratesIn 6 = .ok (.getfield 77, 3) := by decide +kernel
theorem dX5_ratesIn_9 : decode cX5_ratesIn 9 = .ok (.if_icmp .ge 29, 3) := by decide +kernel
theorem dX5_ratesIn_12 : decode cX5_ratesIn 12 = .ok (.iload_n 2, 1) := by decide +kernel
theorem dX5_ratesIn_13 : decode cX5_ratesIn 13 = .ok (.iload_n 1, 1) := by decide +kernel
theorem dX5_ratesIn_14 : decode cX5_ratesIn 14 = .ok (.iload_n 3, 1) := by decide +kernel
theorem dX5_ratesIn_15 : decode cX5_ratesIn 15 = .ok (.invokestatic 93, 3) := by decide +kernel
theorem dX5_ratesIn_18 : decode cX5_ratesIn 18 = .ok (.ifCond .eq 11, 3) := by decide +kernel
theorem dX5_ratesIn_21 : decode cX5_ratesIn 21 = .ok (.aload_n 0, 1) := by decide +kernel
theorem dX5_ratesIn_22 : decode cX5_ratesIn 22 = .ok (.iload_n 3, 1) := by decide +kernel
theorem dX5_ratesIn_23 : decode cX5_ratesIn 23 = .ok (.invokevirtual 140, 3) := by decide +kernel
theorem dX5_ratesIn_26 : decode cX5_ratesIn 26 = .ok (.goto 4, 3) := by decide +kernel
theorem dX5_ratesIn_29 : decode cX5_ratesIn 29 = .ok (.iconst 0, 1) := by decide +kernel
theorem dX5_ratesIn_30 : decode cX5_ratesIn 30 = .ok (.iadd, 1) := by decide +kernel
theorem dX5_ratesIn_31 : decode cX5_ratesIn 31 = .ok (.istore_n 2, 1) := by decide +kernel
theorem dX5_ratesIn_32 : decode cX5_ratesIn 32 = .ok (.iinc 3 1, 3) := by decide +kernel
theorem dX5_ratesIn_35 : decode cX5_ratesIn 35 = .ok (.goto (-31), 3) := by decide +kernel
theorem dX5_ratesIn_38 : decode cX5_ratesIn 38 = .ok (.iload_n 2, 1) := by decide +kernel
theorem dX5_ratesIn_39 : decode cX5_ratesIn 39 = .ok (.ireturn, 1) := by decide +kernel
abbrev A5_ratesIn (G : GG) (Q : Int32 → MM → Prop) := AW G E0 (MZ G (qI Q)) (WY yX5_ratesIn cX5_ratesIn 4 (some .int)) RX5 cX5_ratesIn 4 (some .int) ({ frames := 1, cells := 0, slots := 0, locals := 22 } : Room) 0 0
def D5_ratesIn_c30 (K4 : Int32 → Int32 → Int32 → MM → Prop) (Q : Int32 → MM → Prop) (x1 : Int32) (x3 : Int32) (s0 : Int32) (s1 : Int32) (M : MM) : Prop := (fun v5 : Int32 => (fun v6 : Int32 => K4 x1 v5 v6 M) (x3 + (1 : Int32))) (s1 + s0)
def D5_ratesIn_c4 (Q : Int32 → MM → Prop) : Nat → Int32 → Int32 → Int32 → MM → Prop
  | 0, _, _, _, _ => False
  | n + 1, x1, x2, x3, M => (((M 62 0) ≤ x3 → Q x2 M) ∧ (¬ (M 62 0) ≤ x3 → D5_hasBit x1 x3 M (fun (r1 : Int32) (M2 : MM) => ((r1 = 0 → D5_ratesIn_c30 (D5_ratesIn_c4 Q n) Q x1 x3 (0 : Int32) x2 M2) ∧ (¬ r1 = 0 → D5_rateOf x3 M2 (fun (r3 : Int32) (M4 : MM) => D5_ratesIn_c30 (D5_ratesIn_c4 Q n) Q x1 x3 r3 x2 M4))))))
def D5_ratesIn (x1 : Int32) (M : MM) (Q : Int32 → MM → Prop) : Prop := D5_ratesIn_c4 Q FU x1 (0 : Int32) (0 : Int32) M
set_option maxHeartbeats 4000000 in
set_option maxRecDepth 100000 in
theorem s5_ratesIn_c30 {G : GG} {K4 : Int32 → Int32 → Int32 → MM → Prop} {Q : Int32 → MM → Prop} (hK4 : ∀ (x1 : Int32) (x2 : Int32) (x3 : Int32) (M : MM), K4 x1 x2 x3 M → A5_ratesIn G Q 4 [(0, .ref (gA G 62)), (1, .int x1), (2, .int x2), (3, .int x3)] [] M) : ∀ (x1 : Int32) (x3 : Int32) (s0 : Int32) (s1 : Int32) (M : MM), D5_ratesIn_c30 K4 Q x1 x3 s0 s1 M → A5_ratesIn G Q 30 [(0, .ref (gA G 62)), (1, .int x1), (3, .int x3)] [.int s0, .int s1] M := by
  intro x1 x3 s0 s1 M h
  unfold D5_ratesIn_c30 at h
  refine a_iadd dX5_ratesIn_30 ?_
  refine a_istore_n (i := 2) (L' := [(2, .int _), (0, .ref _), (1, .int _), (3, .int _)]) dX5_ratesIn_31 rfl (by decide) rfl ?_
  refine a_iinc (L' := [(3, .int _), (2, .int _), (0, .ref _), (1, .int _)]) dX5_ratesIn_32 3 rfl (show _ + Int32.ofInt (1 : Int) = _ + (1 : Int32) from rfl) (by decide) rfl ?_
  refine a_goto (tgt := 4) dX5_ratesIn_35 (by decide) ?_
  refine a_sub [2, 3, 1, 0] rfl ?_
  exact hK4 _ _ _ _ h
set_option maxHeartbeats 4000000 in
set_option maxRecDepth 100000 in
theorem s5_ratesIn_c4 {G : GG} {Q : Int32 → MM → Prop} : ∀ (n : Nat) (x1 : Int32) (x2 : Int32) (x3 : Int32) (M : MM), D5_ratesIn_c4 Q n x1 x2 x3 M → A5_ratesIn G Q 4 [(0, .ref (gA G 62)), (1, .int x1), (2, .int x2), (3, .int x3)] [] M := by
  intro n
  induction n with
  | zero => intro x1 x2 x3 M h; exact h.elim
  | succ n ih =>
    intro x1 x2 x3 M h
    unfold D5_ratesIn_c4 at h
    refine a_iload_n dX5_ratesIn_4 3 rfl ?_
    refine a_aload_n dX5_ratesIn_5 0 rfl ?_
    refine a_get3 dX5_ratesIn_6 0 (by decide) (tbc _ kF_RX5_77) (fun w h => tbc _ (uW3 w h)) rfl ob_62 rfl ?_
    refine a_icmp_ge (tgt := 38) dX5_ratesIn_9 (by decide) (fun c => ?_) (fun c => ?_)
    · have h := h.1 c
      refine a_iload_n dX5_ratesIn_38 2 rfl ?_
      exact a_iret dX5_ratesIn_39 ⟨_, rfl, h⟩
    · have h := h.2 c
      refine a_iload_n dX5_ratesIn_12 2 rfl ?_
      refine a_iload_n dX5_ratesIn_13 1 rfl ?_
      refine a_iload_n dX5_ratesIn_14 3 rfl ?_
      refine a_callSi (n := 2) [.int _, .int _] dX5_ratesIn_15 (s5_hasBit h) (gS tbc kM_RX5_93_X5_hasBit kT_X5_hasBit kN_RX5 kC_X5_hasBit) rfl (by decide +kernel) ⟨Nat.le_of_ble_eq_true rfl, Nat.le_of_ble_eq_true rfl⟩ rfl rfl (Nat.le_of_ble_eq_true rfl) ⟨Nat.le_refl 0, Nat.le_refl 0⟩ (fun r M h => ?_)
      refine a_if_eq (tgt := 29) dX5_ratesIn_18 (by decide) (fun c => ?_) (fun c => ?_)
      · have h := h.1 c
        refine a_iconst (v := 0) dX5_ratesIn_29 (by decide) ?_
        refine a_sub [0, 1, 3] rfl ?_
        exact s5_ratesIn_c30 ih _ _ _ _ _ h
      · have h := h.2 c
        refine a_aload_n dX5_ratesIn_21 0 rfl ?_
        refine a_iload_n dX5_ratesIn_22 3 rfl ?_
        refine a_callVi (n := 1) [.int _] (C := RX5) (ci := 3) (qc := (RX5, TX5, 40)) (fsF := fl3 G _) ob_62.1 (fun _ => en3 ob_62.2) rfl rfl dX5_ratesIn_23 (s5_rateOf h) (gV tbc kM_RX5_140_X5_rateOf kI_X5_rateOf kS_X5_rateOf kN_RX5 kC_X5_rateOf) rfl (by decide +kernel) ⟨Nat.le_of_ble_eq_true rfl, Nat.le_of_ble_eq_true rfl⟩ rfl rfl (Nat.le_of_ble_eq_true rfl) ⟨Nat.le_refl 0, Nat.le_refl 0⟩ (fun r M h => ?_)
        refine a_goto (tgt := 30) dX5_ratesIn_26 (by decide) ?_
        refine a_sub [0, 1, 3] rfl ?_
        exact s5_ratesIn_c30 ih _ _ _ _ _ h
set_option maxHeartbeats 4000000 in
set_option maxRecDepth 100000 in
theorem s5_ratesIn {G : GG} {x1 : Int32} {M : MM} {Q : Int32 → MM → Prop} (h : D5_ratesIn x1 M Q) : CM G yX5_ratesIn (WY yX5_ratesIn cX5_ratesIn 4 (some .int)) 1 22 [.ref (gA G 62), .int x1] M (qI Q) := by
  refine CM.of (cc := cX5_ratesIn) (nL := 4) (ret := (some .int)) (own := RX5) (by decide +kernel) rfl rfl (Nat.le_of_ble_eq_true rfl) ?_
  show A5_ratesIn G Q 0 [(0, .ref (gA G 62)), (1, .int x1)] [] M
  unfold D5_ratesIn at h
  refine a_iconst (v := 0) dX5_ratesIn_0 (by decide) ?_
  refine a_istore_n (i := 2) (L' := [(2, .int _), (0, .ref _), (1, .int _)]) dX5_ratesIn_1 rfl (by decide) rfl ?_
  refine a_iconst (v := 0) dX5_ratesIn_2 (by decide) ?_
  refine a_istore_n (i := 3) (L' := [(3, .int _), (2, .int _), (0, .ref _), (1, .int _)]) dX5_ratesIn_3 rfl (by decide) rfl ?_
  refine a_sub [2, 3, 1, 0] rfl ?_
  exact s5_ratesIn_c4 _ _ _ _ _ h

/-! X5_dearestOne -/
theorem dX5_dearestOne_0 : decode cX5_dearestOne 0 = .ok (.bipush (-9), 2) := by decide +kernel
theorem dX5_dearestOne_2 : decode cX5_dearestOne 2 = .ok (.istore_n 1, 1) := by decide +kernel
theorem dX5_dearestOne_3 : decode cX5_dearestOne 3 = .ok (.iconst 0, 1) := by decide +kernel
theorem dX5_dearestOne_4 : decode cX5_dearestOne 4 = .ok (.istore_n 2, 1) := by decide +kernel
theorem dX5_dearestOne_5 : decode cX5_dearestOne 5 = .ok (.iload_n 2, 1) := by decide +kernel
theorem dX5_dearestOne_6 : decode cX5_dearestOne 6 = .ok (.aload_n 0, 1) := by decide +kernel
theorem dX5_dearestOne_7 : decode cX5_dearestOne 7 = .ok (.getfield 77, 3) := by decide +kernel
theorem dX5_dearestOne_10 : decode cX5_dearestOne 10 = .ok (.if_icmp .ge 41, 3) := by decide +kernel
theorem dX5_dearestOne_13 : decode cX5_dearestOne 13 = .ok (.aload_n 0, 1) := by decide +kernel
theorem dX5_dearestOne_14 : decode cX5_dearestOne 14 = .ok (.getfield 22, 3) := by decide +kernel
theorem dX5_dearestOne_17 : decode cX5_dearestOne 17 = .ok (.iload_n 2, 1) := by decide +kernel
theorem dX5_dearestOne_18 : decode cX5_dearestOne 18 = .ok (.iaload, 1) := by decide +kernel
theorem dX5_dearestOne_19 : decode cX5_dearestOne 19 = .ok (.ifCond .ne 24, 3) := by decide +kernel
theorem dX5_dearestOne_22 : decode cX5_dearestOne 22 = .ok (.iload_n 1, 1) := by decide +kernel
theorem dX5_dearestOne_23 : decode cX5_dearestOne 23 = .ok (.ifCond .lt 16, 3) := by decide +kernel
theorem dX5_dearestOne_26 : decode cX5_dearestOne 26 = .ok (.aload_n 0, 1) := by decide +kernel
theorem dX5_dearestOne_27 : decode cX5_dearestOne 27 = .ok (.iload_n 2, 1) := by decide +kernel
theorem dX5_dearestOne_28 : decode cX5_dearestOne 28 = .ok (.invokevirtual 140, 3) := by decide +kernel
theorem dX5_dearestOne_31 : decode cX5_dearestOne 31 = .ok (.aload_n 0, 1) := by decide +kernel
theorem dX5_dearestOne_32 : decode cX5_dearestOne 32 = .ok (.iload_n 1, 1) := by decide +kernel
theorem dX5_dearestOne_33 : decode cX5_dearestOne 33 = .ok (.invokevirtual 140, 3) := by decide +kernel
theorem dX5_dearestOne_36 : decode cX5_dearestOne 36 = .ok (.if_icmp .le 7, 3) := by decide +kernel
theorem dX5_dearestOne_39 : decode cX5_dearestOne 39 = .ok (.iload_n 2, 1) := by decide +kernel
theorem dX5_dearestOne_40 : decode cX5_dearestOne 40 = .ok (.goto 4, 3) := by decide +kernel
theorem dX5_dearestOne_43 : decode cX5_dearestOne 43 = .ok (.iload_n 1, 1) := by decide +kernel
theorem dX5_dearestOne_44 : decode cX5_dearestOne 44 = .ok (.istore_n 1, 1) := by decide +kernel
theorem dX5_dearestOne_45 : decode cX5_dearestOne 45 = .ok (.iinc 2 1, 3) := by decide +kernel
theorem dX5_dearestOne_48 : decode cX5_dearestOne 48 = .ok (.goto (-43), 3) := by decide +kernel
theorem dX5_dearestOne_51 : decode cX5_dearestOne 51 = .ok (.iload_n 1, 1) := by decide +kernel
theorem dX5_dearestOne_52 : decode cX5_dearestOne 52 = .ok (.ireturn, 1) := by decide +kernel
abbrev A5_dearestOne (G : GG) (Q : Int32 → MM → Prop) := AW G E0 (MZ G (qI Q)) (WY yX5_dearestOne cX5_dearestOne 3 (some .int)) RX5 cX5_dearestOne 3 (some .int) ({ frames := 1, cells := 0, slots := 0, locals := 22 } : Room) 0 0
def D5_dearestOne_c44 (K5 : Int32 → Int32 → MM → Prop) (Q : Int32 → MM → Prop) (x2 : Int32) (s0 : Int32) (M : MM) : Prop := (fun v5 : Int32 => K5 s0 v5 M) (x2 + (1 : Int32))
def D5_dearestOne_c39 (K5 : Int32 → Int32 → MM → Prop) (Q : Int32 → MM → Prop) (x2 : Int32) (M : MM) : Prop := D5_dearestOne_c44 K5 Q x2 x2 M
def D5_dearestOne_c43 (K5 : Int32 → Int32 → MM → Prop) (Q : Int32 → MM → Prop) (x1 : Int32) (x2 : Int32) (M : MM) : Prop := D5_dearestOne_c44 K5 Q x2 x1 M
def D5_dearestOne_c5 (Q : Int32 → MM → Prop) : Nat → Int32 → Int32 → MM → Prop
  | 0, _, _, _ => False
  | n + 1, x1, x2, M => (((M 62 0) ≤ x2 → Q x1 M) ∧ (¬ (M 62 0) ≤ x2 → ib 67 x2 ∧ (((M 67 (ix x2)) ≠ 0 → D5_dearestOne_c43 (D5_dearestOne_c5 Q n) Q x1 x2 M) ∧ ((M 67 (ix x2)) = 0 → ((x1 < 0 → D5_dearestOne_c39 (D5_dearestOne_c5 Q n) Q x2 M) ∧ (¬ x1 < 0 → D5_rateOf x2 M (fun (r1 : Int32) (M2 : MM) => D5_rateOf x1 M2 (fun (r3 : Int32) (M4 : MM) => ((r1 ≤ r3 → D5_dearestOne_c43 (D5_dearestOne_c5 Q n) Q x1 x2 M4) ∧ (¬ r1 ≤ r3 → D5_dearestOne_c39 (D5_dearestOne_c5 Q n) Q x2 M4))))))))))
def D5_dearestOne (M : MM) (Q : Int32 → MM → Prop) : Prop := D5_dearestOne_c5 Q FU (-9 : Int32) (0 : Int32) M
set_option maxHeartbeats 4000000 in
set_option maxRecDepth 100000 in
theorem s5_dearestOne_c44 {G : GG} {K5 : Int32 → Int32 → MM → Prop} {Q : Int32 → MM → Prop} (hK5 : ∀ (x1 : Int32) (x2 : Int32) (M : MM), K5 x1 x2 M → A5_dearestOne G Q 5 [(0, .ref (gA G 62)), (1, .int x1), (2, .int x2)] [] M) : ∀ (x2 : Int32) (s0 : Int32) (M : MM), D5_dearestOne_c44 K5 Q x2 s0 M → A5_dearestOne G Q 44 [(0, .ref (gA G 62)), (2, .int x2)] [.int s0] M := by
  intro x2 s0 M h
  unfold D5_dearestOne_c44 at h
  refine a_istore_n (i := 1) (L' := [(1, .int _), (0, .ref _), (2, .int _)]) dX5_dearestOne_44 rfl (by decide) rfl ?_
  refine a_iinc (L' := [(2, .int _), (1, .int _), (0, .ref _)]) dX5_dearestOne_45 2 rfl (show _ + Int32.ofInt (1 : Int) = _ + (1 : Int32) from rfl) (by decide) rfl ?_
  refine a_goto (tgt := 5) dX5_dearestOne_48 (by decide) ?_
  refine a_sub [2, 1, 0] rfl ?_
  exact hK5 _ _ _ h
set_option maxHeartbeats 4000000 in
set_option maxRecDepth 100000 in
theorem s5_dearestOne_c39 {G : GG} {K5 : Int32 → Int32 → MM → Prop} {Q : Int32 → MM → Prop} (hK5 : ∀ (x1 : Int32) (x2 : Int32) (M : MM), K5 x1 x2 M → A5_dearestOne G Q 5 [(0, .ref (gA G 62)), (1, .int x1), (2, .int x2)] [] M) : ∀ (x2 : Int32) (M : MM), D5_dearestOne_c39 K5 Q x2 M → A5_dearestOne G Q 39 [(0, .ref (gA G 62)), (2, .int x2)] [] M := by
  intro x2 M h
  unfold D5_dearestOne_c39 at h
  refine a_iload_n dX5_dearestOne_39 1 rfl ?_
  refine a_goto (tgt := 44) dX5_dearestOne_40 (by decide) ?_
  refine a_sub [0, 1] rfl ?_
  exact s5_dearestOne_c44 hK5 _ _ _ h
set_option maxHeartbeats 4000000 in
set_option maxRecDepth 100000 in
theorem s5_dearestOne_c43 {G : GG} {K5 : Int32 → Int32 → MM → Prop} {Q : Int32 → MM → Prop} (hK5 : ∀ (x1 : Int32) (x2 : Int32) (M : MM), K5 x1 x2 M → A5_dearestOne G Q 5 [(0, .ref (gA G 62)), (1, .int x1), (2, .int x2)] [] M) : ∀ (x1 : Int32) (x2 : Int32) (M : MM), D5_dearestOne_c43 K5 Q x1 x2 M → A5_dearestOne G Q 43 [(0, .ref (gA G 62)), (1, .int x1), (2, .int x2)] [] M := by
  intro x1 x2 M h
  unfold D5_dearestOne_c43 at h
  refine a_iload_n dX5_dearestOne_43 1 rfl ?_
  refine a_sub [0, 2] rfl ?_
  exact s5_dearestOne_c44 hK5 _ _ _ h
set_option maxHeartbeats 4000000 in
set_option maxRecDepth 100000 in
theorem s5_dearestOne_c5 {G : GG} {Q : Int32 → MM → Prop} : ∀ (n : Nat) (x1 : Int32) (x2 : Int32) (M : MM), D5_dearestOne_c5 Q n x1 x2 M → A5_dearestOne G Q 5 [(0, .ref (gA G 62)), (1, .int x1), (2, .int x2)] [] M := by
  intro n
  induction n with
  | zero => intro x1 x2 M h; exact h.elim
  | succ n ih =>
    intro x1 x2 M h
    unfold D5_dearestOne_c5 at h
    refine a_iload_n dX5_dearestOne_5 2 rfl ?_
    refine a_aload_n dX5_dearestOne_6 0 rfl ?_
    refine a_get3 dX5_dearestOne_7 0 (by decide) (tbc _ kF_RX5_77) (fun w h => tbc _ (uW3 w h)) rfl ob_62 rfl ?_
    refine a_icmp_ge (tgt := 51) dX5_dearestOne_10 (by decide) (fun c => ?_) (fun c => ?_)
    · have h := h.1 c
      refine a_iload_n dX5_dearestOne_51 1 rfl ?_
      exact a_iret dX5_dearestOne_52 ⟨_, rfl, h⟩
    · have h := h.2 c
      refine a_aload_n dX5_dearestOne_13 0 rfl ?_
      refine a_get3 dX5_dearestOne_14 5 (by decide) (tbc _ kF_RX5_22) (fun w h => tbc _ (uW3 w h)) rfl ob_62 rfl ?_
      refine a_iload_n dX5_dearestOne_17 2 rfl ?_
      refine a_iald dX5_dearestOne_18 h.1 ?_
      have h := h.2
      refine a_if_ne (tgt := 43) dX5_dearestOne_19 (by decide) (fun c => ?_) (fun c => ?_)
      · have h := h.1 c
        refine a_sub [0, 1, 2] rfl ?_
        exact s5_dearestOne_c43 ih _ _ _ h
      · have h := h.2 c
        refine a_iload_n dX5_dearestOne_22 1 rfl ?_
        refine a_if_lt (tgt := 39) dX5_dearestOne_23 (by decide) (fun c => ?_) (fun c => ?_)
        · have h := h.1 c
          refine a_sub [0, 2] rfl ?_
          exact s5_dearestOne_c39 ih _ _ h
        · have h := h.2 c
          refine a_aload_n dX5_dearestOne_26 0 rfl ?_
          refine a_iload_n dX5_dearestOne_27 2 rfl ?_
          refine a_callVi (n := 1) [.int _] (C := RX5) (ci := 3) (qc := (RX5, TX5, 40)) (fsF := fl3 G _) ob_62.1 (fun _ => en3 ob_62.2) rfl rfl dX5_dearestOne_28 (s5_rateOf h) (gV tbc kM_RX5_140_X5_rateOf kI_X5_rateOf kS_X5_rateOf kN_RX5 kC_X5_rateOf) rfl (by decide +kernel) ⟨Nat.le_of_ble_eq_true rfl, Nat.le_of_ble_eq_true rfl⟩ rfl rfl (Nat.le_of_ble_eq_true rfl) ⟨Nat.le_refl 0, Nat.le_refl 0⟩ (fun r M h => ?_)
          refine a_aload_n dX5_dearestOne_31 0 rfl ?_
          refine a_iload_n dX5_dearestOne_32 1 rfl ?_
          refine a_callVi (n := 1) [.int _] (C := RX5) (ci := 3) (qc := (RX5, TX5, 40)) (fsF := fl3 G _) ob_62.1 (fun _ => en3 ob_62.2) rfl rfl dX5_dearestOne_33 (s5_rateOf h) (gV tbc kM_RX5_140_X5_rateOf kI_X5_rateOf kS_X5_rateOf kN_RX5 kC_X5_rateOf) rfl (by decide +kernel) ⟨Nat.le_of_ble_eq_true rfl, Nat.le_of_ble_eq_true rfl⟩ rfl rfl (Nat.le_of_ble_eq_true rfl) ⟨Nat.le_refl 0, Nat.le_refl 0⟩ (fun r M h => ?_)
          refine a_icmp_le (tgt := 43) dX5_dearestOne_36 (by decide) (fun c => ?_) (fun c => ?_)
          · have h := h.1 c
            refine a_sub [0, 1, 2] rfl ?_
            exact s5_dearestOne_c43 ih _ _ _ h
          · have h := h.2 c
            refine a_sub [0, 2] rfl ?_
            exact s5_dearestOne_c39 ih _ _ h
set_option maxHeartbeats 4000000 in
set_option maxRecDepth 100000 in
theorem s5_dearestOne {G : GG} {M : MM} {Q : Int32 → MM → Prop} (h : D5_dearestOne M Q) : CM G yX5_dearestOne (WY yX5_dearestOne cX5_dearestOne 3 (some .int)) 1 22 [.ref (gA G 62)] M (qI Q) := by
  refine CM.of (cc := cX5_dearestOne) (nL := 3) (ret := (some .int)) (own := RX5) (by decide +kernel) rfl rfl (Nat.le_of_ble_eq_true rfl) ?_
  show A5_dearestOne G Q 0 [(0, .ref (gA G 62))] [] M
  unfold D5_dearestOne at h
  refine a_bipush (v := -9) dX5_dearestOne_0 (by decide) ?_
  refine a_istore_n (i := 1) (L' := [(1, .int _), (0, .ref _)]) dX5_dearestOne_2 rfl (by decide) rfl ?_
  refine a_iconst (v := 0) dX5_dearestOne_3 (by decide) ?_
  refine a_istore_n (i := 2) (L' := [(2, .int _), (1, .int _), (0, .ref _)]) dX5_dearestOne_4 rfl (by decide) rfl ?_
  refine a_sub [2, 1, 0] rfl ?_
  exact s5_dearestOne_c5 _ _ _ _ h

/-! X5_held -/
theorem dX5_held_0 : decode cX5_held 0 = .ok (.iload_n 0, 1) := by decide +kernel
theorem dX5_held_1 : decode cX5_held 1 = .ok (.ifCond .ge 7, 3) := by decide +kernel
theorem dX5_held_4 : decode cX5_held 4 = .ok (.iconst 0, 1) := by decide +kernel
theorem dX5_held_5 : decode cX5_held 5 = .ok (.goto 13, 3) := by decide +kernel
theorem dX5_held_8 : decode cX5_held 8 = .ok (.iload_n 0, 1) := by decide +kernel
theorem dX5_held_9 : decode cX5_held 9 = .ok (.iload_n 1, 1) := by decide +kernel
theorem dX5_held_10 : decode cX5_held 10 = .ok (.if_icmp .le 7, 3) := by decide +kernel
theorem dX5_held_13 : decode cX5_held 13 = .ok (.iload_n 1, 1) := by decide +kernel
theorem dX5_held_14 : decode cX5_held 14 = .ok (.goto 4, 3) := by decide +kernel
theorem dX5_held_17 : decode cX5_held 17 = .ok (.iload_n 0, 1) := by decide +kernel
theorem dX5_held_18 : decode cX5_held 18 = .ok (.ireturn, 1) := by decide +kernel
abbrev A5_held (G : GG) (Q : Int32 → MM → Prop) := AW G E0 (MZ G (qI Q)) (WY yX5_held cX5_held 2 (some .int)) RX5 cX5_held 2 (some .int) ({ frames := 0, cells := 0, slots := 0, locals := 0 } : Room) 0 0
def D5_held (x0 : Int32) (x1 : Int32) (M : MM) (Q : Int32 → MM → Prop) : Prop := ((0 ≤ x0 → ((x0 ≤ x1 → Q x0 M) ∧ (¬ x0 ≤ x1 → Q x1 M))) ∧ (¬ 0 ≤ x0 → Q (0 : Int32) M))
set_option maxHeartbeats 4000000 in
set_option maxRecDepth 100000 in
theorem s5_held {G : GG} {x0 : Int32} {x1 : Int32} {M : MM} {Q : Int32 → MM → Prop} (h : D5_held x0 x1 M Q) : CM G yX5_held (WY yX5_held cX5_held 2 (some .int)) 0 0 [.int x0, .int x1] M (qI Q) := by
  refine CM.of (cc := cX5_held) (nL := 2) (ret := (some .int)) (own := RX5) (by decide +kernel) rfl rfl (Nat.le_of_ble_eq_true rfl) ?_
  show A5_held G Q 0 [(0, .int x0), (1, .int x1)] [] M
  unfold D5_held at h
  refine a_iload_n dX5_held_0 0 rfl ?_
  refine a_if_ge (tgt := 8) dX5_held_1 (by decide) (fun c => ?_) (fun c => ?_)
  · have h := h.1 c
    refine a_iload_n dX5_held_8 0 rfl ?_
    refine a_iload_n dX5_held_9 1 rfl ?_
    refine a_icmp_le (tgt := 17) dX5_held_10 (by decide) (fun c => ?_) (fun c => ?_)
    · have h := h.1 c
      refine a_iload_n dX5_held_17 0 rfl ?_
      exact a_iret dX5_held_18 ⟨_, rfl, h⟩
    · have h := h.2 c
      refine a_iload_n dX5_held_13 1 rfl ?_
      refine a_goto (tgt := 18) dX5_held_14 (by decide) ?_
      exact a_iret dX5_held_18 ⟨_, rfl, h⟩
  · have h := h.2 c
    refine a_iconst (v := 0) dX5_held_4 (by decide) ?_
    refine a_goto (tgt := 18) dX5_held_5 (by decide) ?_
    exact a_iret dX5_held_18 ⟨_, rfl, h⟩

/-! X5_isStop -/
theorem dX5_isStop_0 : decode cX5_isStop 0 = .ok (.aload_n 0, 1) := by decide +kernel
theorem dX5_isStop_1 : decode cX5_isStop 1 = .ok (.getfield 7, 3) := by decide +kernel
theorem dX5_isStop_4 : decode cX5_isStop 4 = .ok (.iload_n 1, 1) := by decide +kernel
theorem dX5_isStop_5 : decode cX5_isStop 5 = .ok (.iaload, 1) := by decide +kernel
theorem dX5_isStop_6 : decode cX5_isStop 6 = .ok (.iconst 2, 1) := by decide +kernel
theorem dX5_isStop_7 : decode cX5_isStop 7 = .ok (.if_icmp .eq 7, 3) := by decide +kernel
theorem dX5_isStop_10 : decode cX5_isStop 10 = .ok (.iconst 1, 1) := by decide +kernel
theorem dX5_isStop_11 : decode cX5_isStop 11 = .ok (.goto 4, 3) := by decide +kernel
theorem dX5_isStop_14 : decode cX5_isStop 14 = .ok (.iconst 0, 1) := by decide +kernel
theorem dX5_isStop_15 : decode cX5_isStop 15 = .ok (.ireturn, 1) := by decide +kernel
abbrev A5_isStop (G : GG) (Q : Int32 → MM → Prop) := AW G E0 (MZ G (qI Q)) (WY yX5_isStop cX5_isStop 2 (some .boolean)) RX5 cX5_isStop 2 (some .boolean) ({ frames := 0, cells := 0, slots := 0, locals := 0 } : Room) 0 0
def D5_isStop (x1 : Int32) (M : MM) (Q : Int32 → MM → Prop) : Prop := ib 63 x1 ∧ (((M 63 (ix x1)) = (2 : Int32) → Q (0 : Int32) M) ∧ (¬ (M 63 (ix x1)) = (2 : Int32) → Q (1 : Int32) M))
set_option maxHeartbeats 4000000 in
set_option maxRecDepth 100000 in
theorem s5_isStop {G : GG} {x1 : Int32} {M : MM} {Q : Int32 → MM → Prop} (h : D5_isStop x1 M Q) : CM G yX5_isStop (WY yX5_isStop cX5_isStop 2 (some .boolean)) 0 0 [.ref (gA G 62), .int x1] M (qI Q) := by
  refine CM.of (cc := cX5_isStop) (nL := 2) (ret := (some .boolean)) (own := RX5) (by decide +kernel) rfl rfl (Nat.le_of_ble_eq_true rfl) ?_
  show A5_isStop G Q 0 [(0, .ref (gA G 62)), (1, .int x1)] [] M
  unfold D5_isStop at h
  refine a_aload_n dX5_isStop_0 0 rfl ?_
  refine a_get3 dX5_isStop_1 1 (by decide) (tbc _ kF_RX5_7) (fun w h => tbc _ (uW3 w h)) rfl ob_62 rfl ?_
  refine a_iload_n dX5_isStop_4 1 rfl ?_
  refine a_iald dX5_isStop_5 h.1 ?_
  have h := h.2
  refine a_iconst (v := 2) dX5_isStop_6 (by decide) ?_
  refine a_icmp_eq (tgt := 14) dX5_isStop_7 (by decide) (fun c => ?_) (fun c => ?_)
  · have h := h.1 c
    refine a_iconst (v := 0) dX5_isStop_14 (by decide) ?_
    exact a_zret dX5_isStop_15 (Or.inl rfl) ⟨_, rfl, h⟩
  · have h := h.2 c
    refine a_iconst (v := 1) dX5_isStop_10 (by decide) ?_
    refine a_goto (tgt := 15) dX5_isStop_11 (by decide) ?_
    exact a_zret dX5_isStop_15 (Or.inr rfl) ⟨_, rfl, h⟩

/-! X5_becomeWet -/
theorem dX5_becomeWet_0 : decode cX5_becomeWet 0 = .ok (.iload_n 1, 1) := by decide +kernel
theorem dX5_becomeWet_1 : decode cX5_becomeWet 1 = .ok (.ifCond .lt 64, 3) := by decide +kernel
theorem dX5_becomeWet_4 : decode cX5_becomeWet 4 = .ok (.iload_n 1, 1) := by decide +kernel
theorem dX5_becomeWet_5 : decode cX5_becomeWet 5 = .ok (.iconst 5, 1) := by decide +kernel
theorem dX5_becomeWet_6 : decode cX5_becomeWet 6 = .ok (.idiv, 1) := by decide +kernel
theorem dX5_becomeWet_7 : decode cX5_becomeWet 7 = .ok (.iconst 5, 1) := by decide +kernel
theorem dX5_becomeWet_8 : decode cX5_becomeWet 8 = .ok (.iload_n 2, 1) := by decide +kernel
theorem dX5_becomeWet_9 : decode cX5_becomeWet 9 = .ok (.isub, 1) := by decide +kernel
theorem dX5_becomeWet_10 : decode cX5_becomeWet 10 = .ok (.if_icmp .lt 55, 3) := by decide +kernel
theorem dX5_becomeWet_13 : decode cX5_becomeWet 13 = .ok (.aload_n 0, 1) := by decide +kernel
theorem dX5_becomeWet_14 : decode cX5_becomeWet 14 = .ok (.getfield 28, 3) := by decide +kernel
theorem dX5_becomeWet_17 : decode cX5_becomeWet 17 = .ok (.iload_n 1, 1) := by decide +kernel
theorem dX5_becomeWet_18 : decode cX5_becomeWet 18 = .ok (.iaload, 1) := by decide +kernel
theorem dX5_becomeWet_19 : decode cX5_becomeWet 19 = .ok (.ifCond .ne 46, 3) := by decide +kernel
theorem dX5_becomeWet_22 : decode cX5_becomeWet 22 = .ok (.aload_n 0, 1) := by decide +kernel
theorem dX5_becomeWet_23 : decode cX5_becomeWet 23 = .ok (.getfield 90, 3) := by decide +kernel
theorem dX5_becomeWet_26 : decode cX5_becomeWet 26 = .ok (.iload_n 1, 1) := by decide +kernel
theorem dX5_becomeWet_27 : decode cX5_becomeWet 27 = .ok (.invokestatic 93, 3) := by decide +kernel
theorem dX5_becomeWet_30 : decode cX5_becomeWet 30 = .ok (.ifCond .ne 35, 3) := by decide +kernel
theorem dX5_becomeWet_33 : decode cX5_becomeWet 33 = .ok (.aload_n 0, 1) := by decide +kernel
theorem dX5_becomeWet_34 : decode cX5_becomeWet 34 = .ok (.dup, 1) := by decide +kernel
theorem dX5_becomeWet_35 : decode cX5_becomeWet 35 = .ok (.getfield 90, 3) := by decide +kernel
theorem dX5_becomeWet_38 : decode cX5_becomeWet 38 = .ok (.iconst 1, 1) := by decide +kernel
theorem dX5_becomeWet_39 : decode cX5_becomeWet 39 = .ok (.iload_n 1, 1) := by decide +kernel
theorem dX5_becomeWet_40 : decode cX5_becomeWet 40 = .ok (.ishl, 1) := by decide +kernel
theorem dX5_becomeWet_41 : decode cX5_becomeWet 41 = .ok (.ior, 1) := by decide +kernel
theorem dX5_becomeWet_42 : decode cX5_becomeWet 42 = .ok (.putfield 90, 3) := by decide +kernel
theorem dX5_becomeWet_45 : decode cX5_becomeWet 45 = .ok (.aload_n 0, 1) := by decide +kernel
theorem dX5_becomeWet_46 : decode cX5_becomeWet 46 = .ok (.getfield 31, 3) := by decide +kernel
theorem dX5_becomeWet_49 : decode cX5_becomeWet 49 = .ok (.aload_n 0, 1) := by decide +kernel
theorem dX5_becomeWet_50 : decode cX5_becomeWet 50 = .ok (.getfield 97, 3) := by decide +kernel
theorem dX5_becomeWet_53 : decode cX5_becomeWet 53 = .ok (.iload_n 1, 1) := by decide +kernel
theorem dX5_becomeWet_54 : decode cX5_becomeWet 54 = .ok (.iastore, 1) := by decide +kernel
theorem dX5_becomeWet_55 : decode cX5_becomeWet 55 = .ok (.aload_n 0, 1) := by decide +kernel
theorem dX5_becomeWet_56 : decode cX5_becomeWet 56 = .ok (.dup, 1) := by decide +kernel
theorem dX5_becomeWet_57 : decode cX5_becomeWet 57 = .ok (.getfield 97, 3) := by decide +kernel
theorem dX5_becomeWet_60 : decode cX5_becomeWet 60 = .ok (.iconst 1, 1) := by decide +kernel
theorem dX5_becomeWet_61 : decode cX5_becomeWet 61 = .ok (.iadd, 1) := by decide +kernel
theorem dX5_becomeWet_62 : decode cX5_becomeWet 62 = .ok (.putfield 97, 3) := by decide +kernel
theorem dX5_becomeWet_65 : decode cX5_becomeWet 65 = .ok (.return_, 1) := by decide +kernel
abbrev A5_becomeWet (G : GG) (Q : MM → Prop) := AW G E0 (MZ G (qV Q)) (WY yX5_becomeWet cX5_becomeWet 3 none) RX5 cX5_becomeWet 3 none ({ frames := 1, cells := 0, slots := 0, locals := 21 } : Room) 0 0
def D5_becomeWet (x1 : Int32) (x2 : Int32) (M : MM) (Q : MM → Prop) : Prop := ((x1 < 0 → Q M) ∧ (¬ x1 < 0 → (((x1 / (5 : Int32)) < ((5 : Int32) - x2) → Q M) ∧ (¬ (x1 / (5 : Int32)) < ((5 : Int32) - x2) → ib 69 x1 ∧ (((M 69 (ix x1)) ≠ 0 → Q M) ∧ ((M 69 (ix x1)) = 0 → D5_hasBit (M 62 12) x1 M (fun (r1 : Int32) (M2 : MM) => ((r1 ≠ 0 → Q M2) ∧ (r1 = 0 → (fun M3 : MM => ib 70 (M3 62 14) ∧ (fun M4 : MM => (fun M5 : MM => Q M5) (up M4 62 14 ((M4 62 14) + (1 : Int32)))) (up M3 70 (ix (M3 62 14)) x1)) (up M2 62 12 ((M2 62 12) ||| ((1 : Int32) <<< (x1 &&& 31)))))))))))))
set_option maxHeartbeats 4000000 in
set_option maxRecDepth 100000 in
theorem s5_becomeWet {G : GG} {x1 : Int32} {x2 : Int32} {M : MM} {Q : MM → Prop} (h : D5_becomeWet x1 x2 M Q) : CM G yX5_becomeWet (WY yX5_becomeWet cX5_becomeWet 3 none) 1 21 [.ref (gA G 62), .int x1, .int x2] M (qV Q) := by
  refine CM.of (cc := cX5_becomeWet) (nL := 3) (ret := none) (own := RX5) (by decide +kernel) rfl rfl (Nat.le_of_ble_eq_true rfl) ?_
  show A5_becomeWet G Q 0 [(0, .ref (gA G 62)), (1, .int x1), (2, .int x2)] [] M
  unfold D5_becomeWet at h
  refine a_iload_n dX5_becomeWet_0 1 rfl ?_
  refine a_if_lt (tgt := 65) dX5_becomeWet_1 (by decide) (fun c => ?_) (fun c => ?_)
  · have h := h.1 c
    exact a_vret dX5_becomeWet_65 ⟨rfl, h⟩
  · have h := h.2 c
    refine a_iload_n dX5_becomeWet_4 1 rfl ?_
    refine a_iconst (v := 5) dX5_becomeWet_5 (by decide) ?_
    refine a_idiv dX5_becomeWet_6 (by decide) ?_
    refine a_iconst (v := 5) dX5_becomeWet_7 (by decide) ?_
    refine a_iload_n dX5_becomeWet_8 2 rfl ?_
    refine a_isub dX5_becomeWet_9 ?_
    refine a_icmp_lt (tgt := 65) dX5_becomeWet_10 (by decide) (fun c => ?_) (fun c => ?_)
    · have h := h.1 c
      exact a_vret dX5_becomeWet_65 ⟨rfl, h⟩
    · have h := h.2 c
      refine a_aload_n dX5_becomeWet_13 0 rfl ?_
      refine a_get3 dX5_becomeWet_14 11 (by decide) (tbc _ kF_RX5_28) (fun w h => tbc _ (uW3 w h)) rfl ob_62 rfl ?_
      refine a_iload_n dX5_becomeWet_17 1 rfl ?_
      refine a_iald dX5_becomeWet_18 h.1 ?_
      have h := h.2
      refine a_if_ne (tgt := 65) dX5_becomeWet_19 (by decide) (fun c => ?_) (fun c => ?_)
      · have h := h.1 c
        exact a_vret dX5_becomeWet_65 ⟨rfl, h⟩
      · have h := h.2 c
        refine a_aload_n dX5_becomeWet_22 0 rfl ?_
        refine a_get3 dX5_becomeWet_23 12 (by decide) (tbc _ kF_RX5_90) (fun w h => tbc _ (uW3 w h)) rfl ob_62 rfl ?_
        refine a_iload_n dX5_becomeWet_26 1 rfl ?_
        refine a_callSi (n := 2) [.int _, .int _] dX5_becomeWet_27 (s5_hasBit h) (gS tbc kM_RX5_93_X5_hasBit kT_X5_hasBit kN_RX5 kC_X5_hasBit) rfl (by decide +kernel) ⟨Nat.le_of_ble_eq_true rfl, Nat.le_of_ble_eq_true rfl⟩ rfl rfl (Nat.le_of_ble_eq_true rfl) ⟨Nat.le_refl 0, Nat.le_refl 0⟩ (fun r M h => ?_)
        refine a_if_ne (tgt := 65) dX5_becomeWet_30 (by decide) (fun c => ?_) (fun c => ?_)
        · have h := h.1 c
          exact a_vret dX5_becomeWet_65 ⟨rfl, h⟩
        · have h := h.2 c
          refine a_aload_n dX5_becomeWet_33 0 rfl ?_
          refine a_dup dX5_becomeWet_34 rfl ?_
          refine a_get3 dX5_becomeWet_35 12 (by decide) (tbc _ kF_RX5_90) (fun w h => tbc _ (uW3 w h)) rfl ob_62 rfl ?_
          refine a_iconst (v := 1) dX5_becomeWet_38 (by decide) ?_
          refine a_iload_n dX5_becomeWet_39 1 rfl ?_
          refine a_ishl dX5_becomeWet_40 ?_
          refine a_ior dX5_becomeWet_41 ?_
          refine a_put3 dX5_becomeWet_42 12 (by decide) (tbc _ kF_RX5_90) (fun w h => tbc _ (uW3 w h)) rfl rfl rfl rfl ob_62 fs3_12 ?_
          refine a_aload_n dX5_becomeWet_45 0 rfl ?_
          refine a_get3 dX5_becomeWet_46 13 (by decide) (tbc _ kF_RX5_31) (fun w h => tbc _ (uW3 w h)) rfl ob_62 rfl ?_
          refine a_aload_n dX5_becomeWet_49 0 rfl ?_
          refine a_get3 dX5_becomeWet_50 14 (by decide) (tbc _ kF_RX5_97) (fun w h => tbc _ (uW3 w h)) rfl ob_62 rfl ?_
          refine a_iload_n dX5_becomeWet_53 1 rfl ?_
          refine a_iast dX5_becomeWet_54 h.1 ?_
          have h := h.2
          refine a_aload_n dX5_becomeWet_55 0 rfl ?_
          refine a_dup dX5_becomeWet_56 rfl ?_
          refine a_get3 dX5_becomeWet_57 14 (by decide) (tbc _ kF_RX5_97) (fun w h => tbc _ (uW3 w h)) rfl ob_62 rfl ?_
          refine a_iconst (v := 1) dX5_becomeWet_60 (by decide) ?_
          refine a_iadd dX5_becomeWet_61 ?_
          refine a_put3 dX5_becomeWet_62 14 (by decide) (tbc _ kF_RX5_97) (fun w h => tbc _ (uW3 w h)) rfl rfl rfl rfl ob_62 fs3_14 ?_
          exact a_vret dX5_becomeWet_65 ⟨rfl, h⟩

/-! X5_beside -/
theorem dX5_beside_0 : decode cX5_beside 0 = .ok (.iload_n 1, 1) := by decide +kernel
theorem dX5_beside_1 : decode cX5_beside 1 = .ok (.tableswitch 60 0 2 #[27, 31, 46], 27) := by decide +kernel
theorem dX5_beside_28 : decode cX5_beside 28 = .ok (.iload_n 0, 1) := by decide +kernel
theorem dX5_beside_29 : decode cX5_beside 29 = .ok (.iconst 5, 1) := by decide +kernel
theorem dX5_beside_30 : decode cX5_beside 30 = .ok (.isub, 1) := by decide +kernel
theorem dX5_beside_31 : decode cX5_beside 31 = .ok (.ireturn, 1) := by decide +kernel
theorem dX5_beside_32 : decode cX5_beside 32 = .ok (.iload_n 0, 1) := by decide +kernel
theorem dX5_beside_33 : decode cX5_beside 33 = .ok (.iconst 5, 1) := by decide +kernel
theorem dX5_beside_34 : decode cX5_beside 34 = .ok (.irem, 1) := by decide +kernel
theorem dX5_beside_35 : decode cX5_beside 35 = .ok (.iconst 4, 1) := by decide +kernel
theorem dX5_beside_36 : decode cX5_beside 36 = .ok (.if_icmp .ge 9, 3) := by decide +kernel
theorem dX5_beside_39 : decode cX5_beside 39 = .ok (.iload_n 0, 1) := by decide +kernel
theorem dX5_beside_40 : decode cX5_beside 40 = .ok (.iconst 1, 1) := by decide +kernel
theorem dX5_beside_41 : decode cX5_beside 41 = .ok (.iadd, 1) := by decide +kernel
theorem dX5_beside_42 : decode cX5_beside 42 = .ok (.goto 4, 3) := by decide +kernel
theorem dX5_beside_45 : decode cX5_beside 45 = .ok (.iconst (-1), 1) := by decide +kernel
theorem dX5_beside_46 : decode cX5_beside 46 = .ok (.ireturn, 1) := by decide +kernel
theorem dX5_beside_47 : decode cX5_beside 47 = .ok (.iload_n 0, 1) := by decide +kernel
theorem dX5_beside_48 : decode cX5_beside 48 = .ok (.bipush 20, 2) := by decide +kernel
theorem dX5_beside_50 : decode cX5_beside 50 = .ok (.if_icmp .ge 9, 3) := by decide +kernel
theorem dX5_beside_53 : decode cX5_beside 53 = .ok (.iload_n 0, 1) := by decide +kernel
theorem dX5_beside_54 : decode cX5_beside 54 = .ok (.iconst 5, 1) := by decide +kernel
theorem dX5_beside_55 : decode cX5_beside 55 = .ok (.iadd, 1) := by decide +kernel
theorem dX5_beside_56 : decode cX5_beside 56 = .ok (.goto 4, 3) := by decide +kernel
theorem dX5_beside_59 : decode cX5_beside 59 = .ok (.iconst (-1), 1) := by decide +kernel
theorem dX5_beside_60 : decode cX5_beside 60 = .ok (.ireturn, 1) := by decide +kernel
theorem dX5_beside_61 : decode cX5_beside 61 = .ok (.iload_n 0, 1) := by decide +kernel
theorem dX5_beside_62 : decode cX5_beside 62 = .ok (.iconst 5, 1) := by decide +kernel
theorem dX5_beside_63 : decode cX5_beside 63 = .ok (.irem, 1) := by decide +kernel
theorem dX5_beside_64 : decode cX5_beside 64 = .ok (.ifCond .le 9, 3) := by decide +kernel
theorem dX5_beside_67 : decode cX5_beside 67 = .ok (.iload_n 0, 1) := by decide +kernel
theorem dX5_beside_68 : decode cX5_beside 68 = .ok (.iconst 1, 1) := by decide +kernel
theorem dX5_beside_69 : decode cX5_beside 69 = .ok (.isub, 1) := by decide +kernel
theorem dX5_beside_70 : decode cX5_beside 70 = .ok (.goto 4, 3) := by decide +kernel
theorem dX5_beside_73 : decode cX5_beside 73 = .ok (.iconst (-1), 1) := by decide +kernel
theorem dX5_beside_74 : decode cX5_beside 74 = .ok (.ireturn, 1) := by decide +kernel
abbrev A5_beside (G : GG) (Q : Int32 → MM → Prop) := AW G E0 (MZ G (qI Q)) (WY yX5_beside cX5_beside 2 (some .int)) RX5 cX5_beside 2 (some .int) ({ frames := 0, cells := 0, slots := 0, locals := 0 } : Room) 0 0
def D5_beside (x0 : Int32) (x1 : Int32) (M : MM) (Q : Int32 → MM → Prop) : Prop := ((x1 = 0 → Q (x0 - (5 : Int32)) M) ∧ (¬ x1 = 0 → ((x1 = 1 → (((4 : Int32) ≤ (x0 - x0 / (5 : Int32) * (5 : Int32)) → Q (-1 : Int32) M) ∧ (¬ (4 : Int32) ≤ (x0 - x0 / (5 : Int32) * (5 : Int32)) → Q (x0 + (1 : Int32)) M))) ∧ (¬ x1 = 1 → ((x1 = 2 → (((20 : Int32) ≤ x0 → Q (-1 : Int32) M) ∧ (¬ (20 : Int32) ≤ x0 → Q (x0 + (5 : Int32)) M))) ∧ (¬ x1 = 2 → (((x0 - x0 / (5 : Int32) * (5 : Int32)) ≤ 0 → Q (-1 : Int32) M) ∧ (¬ (x0 - x0 / (5 : Int32) * (5 : Int32)) ≤ 0 → Q (x0 - (1 : Int32)) M))))))))
set_option maxHeartbeats 4000000 in
set_option maxRecDepth 100000 in
theorem s5_beside {G : GG} {x0 : Int32} {x1 : Int32} {M : MM} {Q : Int32 → MM → Prop} (h : D5_beside x0 x1 M Q) : CM G yX5_beside (WY yX5_beside cX5_beside 2 (some .int)) 0 0 [.int x0, .int x1] M (qI Q) := by
  refine CM.of (cc := cX5_beside) (nL := 2) (ret := (some .int)) (own := RX5) (by decide +kernel) rfl rfl (Nat.le_of_ble_eq_true rfl) ?_
  show A5_beside G Q 0 [(0, .int x0), (1, .int x1)] [] M
  unfold D5_beside at h
  refine a_iload_n dX5_beside_0 1 rfl ?_
  refine em_c h (fun c0 h => ?_) (fun c0 h => ?_)
  · refine a_tableIn (off := 27) (tgt := 28) dX5_beside_1 (by rw [c0]; decide) (by rw [c0]; decide) (by rw [c0]; rfl) (by decide) ?_
    refine a_iload_n dX5_beside_28 0 rfl ?_
    refine a_iconst (v := 5) dX5_beside_29 (by decide) ?_
    refine a_isub dX5_beside_30 ?_
    exact a_iret dX5_beside_31 ⟨_, rfl, h⟩
  · refine em_c h (fun c1 h => ?_) (fun c1 h => ?_)
    · refine a_tableIn (off := 31) (tgt := 32) dX5_beside_1 (by rw [c1]; decide) (by rw [c1]; decide) (by rw [c1]; rfl) (by decide) ?_
      refine a_iload_n dX5_beside_32 0 rfl ?_
      refine a_iconst (v := 5) dX5_beside_33 (by decide) ?_
      refine a_irem dX5_beside_34 (by decide) ?_
      refine a_iconst (v := 4) dX5_beside_35 (by decide) ?_
      refine a_icmp_ge (tgt := 45) dX5_beside_36 (by decide) (fun c => ?_) (fun c => ?_)
      · have h := h.1 c
        refine a_iconst (v := -1) dX5_beside_45 (by decide) ?_
        exact a_iret dX5_beside_46 ⟨_, rfl, h⟩
      · have h := h.2 c
        refine a_iload_n dX5_beside_39 0 rfl ?_
        refine a_iconst (v := 1) dX5_beside_40 (by decide) ?_
        refine a_iadd dX5_beside_41 ?_
        refine a_goto (tgt := 46) dX5_beside_42 (by decide) ?_
        exact a_iret dX5_beside_46 ⟨_, rfl, h⟩
    · refine em_c h (fun c2 h => ?_) (fun c2 h => ?_)
      · refine a_tableIn (off := 46) (tgt := 47) dX5_beside_1 (by rw [c2]; decide) (by rw [c2]; decide) (by rw [c2]; rfl) (by decide) ?_
        refine a_iload_n dX5_beside_47 0 rfl ?_
        refine a_bipush (v := 20) dX5_beside_48 (by decide) ?_
        refine a_icmp_ge (tgt := 59) dX5_beside_50 (by decide) (fun c => ?_) (fun c => ?_)
        · have h := h.1 c
          refine a_iconst (v := -1) dX5_beside_59 (by decide) ?_
          exact a_iret dX5_beside_60 ⟨_, rfl, h⟩
        · have h := h.2 c
          refine a_iload_n dX5_beside_53 0 rfl ?_
          refine a_iconst (v := 5) dX5_beside_54 (by decide) ?_
          refine a_iadd dX5_beside_55 ?_
          refine a_goto (tgt := 60) dX5_beside_56 (by decide) ?_
          exact a_iret dX5_beside_60 ⟨_, rfl, h⟩
      · refine a_tableD (tgt := 61) dX5_beside_1 (by decide) (fun k h1 h2 e => by have hk : k = 0 ∨ k = 1 ∨ k = 2 := (by omega); rcases hk with rfl | rfl | rfl <;> first | rfl | exact absurd e (ne_ti c0 (by decide)) | exact absurd e (ne_ti c1 (by decide)) | exact absurd e (ne_ti c2 (by decide))) ?_
        refine a_iload_n dX5_beside_61 0 rfl ?_
        refine a_iconst (v := 5) dX5_beside_62 (by decide) ?_
        refine a_irem dX5_beside_63 (by decide) ?_
        refine a_if_le (tgt := 73) dX5_beside_64 (by decide) (fun c => ?_) (fun c => ?_)
        · have h := h.1 c
          refine a_iconst (v := -1) dX5_beside_73 (by decide) ?_
          exact a_iret dX5_beside_74 ⟨_, rfl, h⟩
        · have h := h.2 c
          refine a_iload_n dX5_beside_67 0 rfl ?_
          refine a_iconst (v := 1) dX5_beside_68 (by decide) ?_
          refine a_isub dX5_beside_69 ?_
          refine a_goto (tgt := 74) dX5_beside_70 (by decide) ?_
          exact a_iret dX5_beside_74 ⟨_, rfl, h⟩

/-! X5_layWet -/
theorem dX5_layWet_0 : decode cX5_layWet 0 = .ok (.iconst 0, 1) := by decide +kernel
theorem dX5_layWet_1 : decode cX5_layWet 1 = .ok (.istore_n 2, 1) := by decide +kernel
theorem dX5_layWet_2 : decode cX5_layWet 2 = .ok (.iload_n 2, 1) := by decide +kernel
theorem dX5_layWet_3 : decode cX5_layWet 3 = .ok (.bipush 25, 2) := by decide +kernel
theorem dX5_layWet_5 : decode cX5_layWet 5 = .ok (.if_icmp .ge 16, 3) := by decide +kernel
theorem dX5_layWet_8 : decode cX5_layWet 8 = .ok (.aload_n 0, 1) := by decide +kernel
theorem dX5_layWet_9 : decode cX5_layWet 9 = .ok (.getfield 28, 3) := by decide +kernel
theorem dX5_layWet_12 : decode cX5_layWet 12 = .ok (.iload_n 2, 1) := by decide +kernel
theorem dX5_layWet_13 : decode cX5_layWet 13 = .ok (.iconst 0, 1) := by decide +kernel
theorem dX5_layWet_14 : decode cX5_layWet 14 = .ok (.iastore, 1) := by decide +kernel
theorem dX5_layWet_15 : decode cX5_layWet 15 = .ok (.iinc 2 1, 3) := by decide +kernel
theorem dX5_layWet_18 : decode cX5_layWet 18 = .ok (.goto (-16), 3) := by decide +kernel
theorem dX5_layWet_21 : decode cX5_layWet 21 = .ok (.iconst 0, 1) := by decide +kernel
theorem dX5_layWet_22 : decode cX5_layWet 22 = .ok (.istore_n 2, 1) := by decide +kernel
theorem dX5_layWet_23 : decode cX5_layWet 23 = .ok (.iload_n 2, 1) := by decide +kernel
theorem dX5_layWet_24 : decode cX5_layWet 24 = .ok (.aload_n 0, 1) := by decide +kernel
theorem dX5_layWet_25 : decode cX5_layWet 25 = .ok (.getfield 77, 3) := by decide +kernel
theorem dX5_layWet_28 : decode cX5_layWet 28 = .ok (.if_icmp .ge 45, 3) := by decide +kernel
theorem dX5_layWet_31 : decode cX5_layWet 31 = .ok (.aload_n 0, 1) := by decide +kernel
theorem dX5_layWet_32 : decode cX5_layWet 32 = .ok (.getfield 28, 3) := by decide +kernel
theorem dX5_layWet_35 : decode cX5_layWet 35 = .ok (.aload_n 0, 1) := by decide +kernel
theorem dX5_layWet_36 : decode cX5_layWet 36 = .ok (.getfield 16, 3) := by decide +kernel
theorem dX5_layWet_39 : decode cX5_layWet 39 = .ok (.iload_n 2, 1) := by decide +kernel
theorem dX5_layWet_40 : decode cX5_layWet 40 = .ok (.iaload, 1) := by decide +kernel
theorem dX5_layWet_41 : decode cX5_layWet 41 = .ok (.dup2, 1) := by decide +kernel
theorem dX5_layWet_42 : decode cX5_layWet 42 = .ok (.iaload, 1) := by decide +kernel
theorem dX5_layWet_43 : decode cX5_layWet 43 = .ok (.aload_n 0, 1) := by decide +kernel
theorem dX5_layWet_44 : decode cX5_layWet 44 = .ok (.getfield 22, 3) := by decide +kernel
theorem dX5_layWet_47 : decode cX5_layWet 47 = .ok (.iload_n 2, 1) := by decide +kernel
theorem dX5_layWet_48 : decode cX5_layWet 48 = .ok (.iaload, 1) := by decide +kernel
theorem dX5_layWet_49 : decode cX5_layWet 49 = .ok (.ifCond .ne 15, 3) := by decide +kernel
theorem dX5_layWet_52 : decode cX5_layWet 52 = .ok (.aload_n 0, 1) := by decide +kernel
theorem dX5_layWet_53 : decode cX5_layWet 53 = .ok (.iload_n 2, 1) := by decide +kernel
theorem dX5_layWet_54 : decode cX5_layWet 54 = .ok (.invokevirtual 100, 3) := by decide +kernel
theorem dX5_layWet_57 : decode cX5_layWet 57 = .ok (.ifCond .eq 7, 3) := by decide +kernel
theorem dX5_layWet_60 : decode cX5_layWet 60 = .ok (.iconst 1, 1) := by decide +kernel
theorem dX5_layWet_61 : decode cX5_layWet 61 = .ok (.goto 4, 3) := by decide +kernel
theorem dX5_layWet_64 : decode cX5_layWet 64 = .ok (.iconst 0, 1) := by decide +kernel
theorem dX5_layWet_65 : decode cX5_layWet 65 = .ok (.ior, 1) := by decide +kernel
theorem dX5_layWet_66 : decode cX5_layWet 66 = .ok (.iastore, 1) := by decide +kernel
theorem dX5_layWet_67 : decode cX5_layWet 67 = .ok (.iinc 2 1, 3) := by decide +kernel
theorem dX5_layWet_70 : decode cX5_layWet 70 = .ok (.goto (-47), 3) := by decide +kernel
theorem dX5_layWet_73 : decode cX5_layWet 73 = .ok (.aload_n 0, 1) := by decide +kernel
theorem dX5_layWet_74 : decode cX5_layWet 74 = .ok (.iconst 0, 1) := by decide +kernel
theorem dX5_layWet_75 : decode cX5_layWet 75 = .ok (.putfield 90, 3) := by decide +kernel
theorem dX5_layWet_78 : decode cX5_layWet 78 = .ok (.aload_n 0, 1) := by decide +kernel
theorem dX5_layWet_79 : decode cX5_layWet 79 = .ok (.iconst 0, 1) := by decide +kernel
theorem dX5_layWet_80 : decode cX5_layWet 80 = .ok (.putfield 97, 3) := by decide +kernel
theorem dX5_layWet_83 : decode cX5_layWet 83 = .ok (.bipush 20, 2) := by decide +kernel
theorem dX5_layWet_85 : decode cX5_layWet 85 = .ok (.istore_n 2, 1) := by decide +kernel
theorem dX5_layWet_86 : decode cX5_layWet 86 = .ok (.iload_n 2, 1) := by decide +kernel
theorem dX5_layWet_87 : decode cX5_layWet 87 = .ok (.bipush 25, 2) := by decide +kernel
theorem dX5_layWet_89 : decode cX5_layWet 89 = .ok (.if_icmp .ge 15, 3) := by decide +kernel
theorem dX5_layWet_92 : decode cX5_layWet 92 = .ok (.aload_n 0, 1) := by decide +kernel
theorem dX5_layWet_93 : decode cX5_layWet 93 = .ok (.iload_n 2, 1) := by decide +kernel
theorem dX5_layWet_94 : decode cX5_layWet 94 = .ok (.iload_n 1, 1) := by decide +kernel
theorem dX5_layWet_95 : decode cX5_layWet 95 = .ok (.invokevirtual 104, 3) := by decide +kernel
theorem dX5_layWet_98 : decode cX5_layWet 98 = .ok (.iinc 2 1, 3) := by decide +kernel
theorem dX5_layWet_101 : decode cX5_layWet 101 = .ok (.goto (-15), 3) := by decide +kernel
theorem dX5_layWet_104 : decode cX5_layWet 104 = .ok (.iconst 0, 1) := by decide +kernel
theorem dX5_layWet_105 : decode cX5_layWet 105 = .ok (.istore_n 2, 1) := by decide +kernel
theorem dX5_layWet_106 : decode cX5_layWet 106 = .ok (.iload_n 2, 1) := by decide +kernel
theorem dX5_layWet_107 : decode cX5_layWet 107 = .ok (.aload_n 0, 1) := by decide +kernel
theorem dX5_layWet_108 : decode cX5_layWet 108 = .ok (.getfield 97, 3) := by decide +kernel
theorem dX5_layWet_111 : decode cX5_layWet 111 = .ok (.if_icmp .ge 37, 3) := by decide +kernel
theorem dX5_layWet_114 : decode cX5_layWet 114 = .ok (.iconst 0, 1) := by decide +kernel
theorem dX5_layWet_115 : decode cX5_layWet 115 = .ok (.istore_n 3, 1) := by decide +kernel
theorem dX5_layWet_116 : decode cX5_layWet 116 = .ok (.iload_n 3, 1) := by decide +kernel
theorem dX5_layWet_117 : decode cX5_layWet 117 = .ok (.iconst 4, 1) := by decide +kernel
theorem dX5_layWet_118 : decode cX5_layWet 118 = .ok (.if_icmp .ge 24, 3) := by decide +kernel
theorem dX5_layWet_121 : decode cX5_layWet 121 = .ok (.aload_n 0, 1) := by decide +kernel
theorem dX5_layWet_122 : decode cX5_layWet 122 = .ok (.aload_n 0, 1) := by decide +kernel
theorem dX5_layWet_123 : decode cX5_layWet 123 = .ok (.getfield 31, 3) := by decide +kernel
theorem dX5_layWet_126 : decode cX5_layWet 126 = .ok (.iload_n 2, 1) := by decide +kernel
theorem dX5_layWet_127 : decode cX5_layWet 127 = .ok (.iaload, 1) := by decide +kernel
theorem dX5_layWet_128 : decode cX5_layWet 128 = .ok (.iload_n 3, 1) := by decide +kernel
theorem dX5_layWet_129 : decode cX5_layWet 129 = .ok (.invokestatic 108, 3) := by decide +kernel
theorem dX5_layWet_132 : decode cX5_layWet 132 = .ok (.iload_n 1, 1) := by decide +kernel
theorem dX5_layWet_133 : decode cX5_layWet 133 = .ok (.invokevirtual 104, 3) := by decide +kernel
theorem dX5_layWet_136 : decode cX5_layWet 136 = .ok (.iinc 3 1, 3) := by decide +kernel
theorem dX5_layWet_139 : decode cX5_layWet 139 = .ok (.goto (-23), 3) := by decide +kernel
theorem dX5_layWet_142 : decode cX5_layWet 142 = .ok (.iinc 2 1, 3) := by decide +kernel
theorem dX5_layWet_145 : decode cX5_layWet 145 = .ok (.goto (-39), 3) := by decide +kernel
theorem dX5_layWet_148 : decode cX5_layWet 148 = .ok (.return_, 1) := by decide +kernel
abbrev A5_layWet (G : GG) (Q : MM → Prop) := AW G E0 (MZ G (qV Q)) (WY yX5_layWet cX5_layWet 4 none) RX5 cX5_layWet 4 none ({ frames := 2, cells := 0, slots := 0, locals := 43 } : Room) 0 0
def D5_layWet_c65 (K23 : Int32 → Int32 → MM → Prop) (Q : MM → Prop) (x1 : Int32) (x2 : Int32) (s0 : Int32) (s1 : Int32) (s2 : Int32) (s3 : Nat) (M : MM) : Prop := ib s3 s2 ∧ (fun M7 : MM => (fun v8 : Int32 => K23 x1 v8 M7) (x2 + (1 : Int32))) (up M s3 (ix s2) (s1 ||| s0))
def D5_layWet_c64 (K23 : Int32 → Int32 → MM → Prop) (Q : MM → Prop) (x1 : Int32) (x2 : Int32) (s0 : Int32) (s1 : Int32) (s2 : Nat) (M : MM) : Prop := D5_layWet_c65 K23 Q x1 x2 (0 : Int32) s0 s1 s2 M
def D5_layWet_c142 (K106 : Int32 → Int32 → MM → Prop) (Q : MM → Prop) (x1 : Int32) (x2 : Int32) (M : MM) : Prop := (fun v17 : Int32 => K106 x1 v17 M) (x2 + (1 : Int32))
def D5_layWet_c116 (K106 : Int32 → Int32 → MM → Prop) (Q : MM → Prop) : Nat → Int32 → Int32 → Int32 → MM → Prop
  | 0, _, _, _, _ => False
  | n + 1, x1, x2, x3, M => (((4 : Int32) ≤ x3 → D5_layWet_c142 K106 Q x1 x2 M) ∧ (¬ (4 : Int32) ≤ x3 → ib 70 x2 ∧ D5_beside (M 70 (ix x2)) x3 M (fun (r12 : Int32) (M13 : MM) => D5_becomeWet r12 x1 M13 (fun (M15 : MM) => (fun v16 : Int32 => D5_layWet_c116 K106 Q n x1 x2 v16 M15) (x3 + (1 : Int32))))))
def D5_layWet_c106 (Q : MM → Prop) : Nat → Int32 → Int32 → MM → Prop
  | 0, _, _, _ => False
  | n + 1, x1, x2, M => (((M 62 14) ≤ x2 → Q M) ∧ (¬ (M 62 14) ≤ x2 → D5_layWet_c116 (D5_layWet_c106 Q n) Q FU x1 x2 (0 : Int32) M))
def D5_layWet_c104 (Q : MM → Prop) (x1 : Int32) (M : MM) : Prop := D5_layWet_c106 Q FU x1 (0 : Int32) M
def D5_layWet_c86 (Q : MM → Prop) : Nat → Int32 → Int32 → MM → Prop
  | 0, _, _, _ => False
  | n + 1, x1, x2, M => (((25 : Int32) ≤ x2 → D5_layWet_c104 Q x1 M) ∧ (¬ (25 : Int32) ≤ x2 → D5_becomeWet x2 x1 M (fun (M10 : MM) => (fun v11 : Int32 => D5_layWet_c86 Q n x1 v11 M10) (x2 + (1 : Int32)))))
def D5_layWet_c73 (Q : MM → Prop) (x1 : Int32) (M : MM) : Prop := (fun M5 : MM => (fun M6 : MM => D5_layWet_c86 Q FU x1 (20 : Int32) M6) (up M5 62 14 (0 : Int32))) (up M 62 12 (0 : Int32))
def D5_layWet_c23 (Q : MM → Prop) : Nat → Int32 → Int32 → MM → Prop
  | 0, _, _, _ => False
  | n + 1, x1, x2, M => (((M 62 0) ≤ x2 → D5_layWet_c73 Q x1 M) ∧ (¬ (M 62 0) ≤ x2 → ib 65 x2 ∧ ib 69 (M 65 (ix x2)) ∧ ib 67 x2 ∧ (((M 67 (ix x2)) ≠ 0 → D5_layWet_c64 (D5_layWet_c23 Q n) Q x1 x2 (M 69 (ix (M 65 (ix x2)))) (M 65 (ix x2)) 69 M) ∧ ((M 67 (ix x2)) = 0 → D5_isStop x2 M (fun (r3 : Int32) (M4 : MM) => ((r3 = 0 → D5_layWet_c64 (D5_layWet_c23 Q n) Q x1 x2 (M 69 (ix (M 65 (ix x2)))) (M 65 (ix x2)) 69 M4) ∧ (¬ r3 = 0 → D5_layWet_c65 (D5_layWet_c23 Q n) Q x1 x2 (1 : Int32) (M 69 (ix (M 65 (ix x2)))) (M 65 (ix x2)) 69 M4)))))))
def D5_layWet_c21 (Q : MM → Prop) (x1 : Int32) (M : MM) : Prop := D5_layWet_c23 Q FU x1 (0 : Int32) M
def D5_layWet_c2 (Q : MM → Prop) : Nat → Int32 → Int32 → MM → Prop
  | 0, _, _, _ => False
  | n + 1, x1, x2, M => (((25 : Int32) ≤ x2 → D5_layWet_c21 Q x1 M) ∧ (¬ (25 : Int32) ≤ x2 → ib 69 x2 ∧ (fun M1 : MM => (fun v2 : Int32 => D5_layWet_c2 Q n x1 v2 M1) (x2 + (1 : Int32))) (up M 69 (ix x2) (0 : Int32))))
def D5_layWet (x1 : Int32) (M : MM) (Q : MM → Prop) : Prop := D5_layWet_c2 Q FU x1 (0 : Int32) M
set_option maxHeartbeats 4000000 in
set_option maxRecDepth 100000 in
theorem s5_layWet_c65 {G : GG} {K23 : Int32 → Int32 → MM → Prop} {Q : MM → Prop} (hK23 : ∀ (x1 : Int32) (x2 : Int32) (M : MM), K23 x1 x2 M → A5_layWet G Q 23 [(0, .ref (gA G 62)), (1, .int x1), (2, .int x2)] [] M) : ∀ (x1 : Int32) (x2 : Int32) (s0 : Int32) (s1 : Int32) (s2 : Int32) (s3 : Nat) (M : MM), D5_layWet_c65 K23 Q x1 x2 s0 s1 s2 s3 M → A5_layWet G Q 65 [(0, .ref (gA G 62)), (1, .int x1), (2, .int x2)] [.int s0, .int s1, .int s2, .ref (gA G s3)] M := by
  intro x1 x2 s0 s1 s2 s3 M h
  unfold D5_layWet_c65 at h
  refine a_ior dX5_layWet_65 ?_
  refine a_iast dX5_layWet_66 h.1 ?_
  have h := h.2
  refine a_iinc (L' := [(2, .int _), (0, .ref _), (1, .int _)]) dX5_layWet_67 2 rfl (show _ + Int32.ofInt (1 : Int) = _ + (1 : Int32) from rfl) (by decide) rfl ?_
  refine a_goto (tgt := 23) dX5_layWet_70 (by decide) ?_
  refine a_sub [1, 2, 0] rfl ?_
  exact hK23 _ _ _ h
set_option maxHeartbeats 4000000 in
set_option maxRecDepth 100000 in
theorem s5_layWet_c64 {G : GG} {K23 : Int32 → Int32 → MM → Prop} {Q : MM → Prop} (hK23 : ∀ (x1 : Int32) (x2 : Int32) (M : MM), K23 x1 x2 M → A5_layWet G Q 23 [(0, .ref (gA G 62)), (1, .int x1), (2, .int x2)] [] M) : ∀ (x1 : Int32) (x2 : Int32) (s0 : Int32) (s1 : Int32) (s2 : Nat) (M : MM), D5_layWet_c64 K23 Q x1 x2 s0 s1 s2 M → A5_layWet G Q 64 [(0, .ref (gA G 62)), (1, .int x1), (2, .int x2)] [.int s0, .int s1, .ref (gA G s2)] M := by
  intro x1 x2 s0 s1 s2 M h
  unfold D5_layWet_c64 at h
  refine a_iconst (v := 0) dX5_layWet_64 (by decide) ?_
  refine a_sub [0, 1, 2] rfl ?_
  exact s5_layWet_c65 hK23 _ _ _ _ _ _ _ h
set_option maxHeartbeats 4000000 in
set_option maxRecDepth 100000 in
theorem s5_layWet_c142 {G : GG} {K106 : Int32 → Int32 → MM → Prop} {Q : MM → Prop} (hK106 : ∀ (x1 : Int32) (x2 : Int32) (M : MM), K106 x1 x2 M → A5_layWet G Q 106 [(0, .ref (gA G 62)), (1, .int x1), (2, .int x2)] [] M) : ∀ (x1 : Int32) (x2 : Int32) (M : MM), D5_layWet_c142 K106 Q x1 x2 M → A5_layWet G Q 142 [(0, .ref (gA G 62)), (1, .int x1), (2, .int x2)] [] M := by
  intro x1 x2 M h
  unfold D5_layWet_c142 at h
  refine a_iinc (L' := [(2, .int _), (0, .ref _), (1, .int _)]) dX5_layWet_142 2 rfl (show _ + Int32.ofInt (1 : Int) = _ + (1 : Int32) from rfl) (by decide) rfl ?_
  refine a_goto (tgt := 106) dX5_layWet_145 (by decide) ?_
  refine a_sub [1, 2, 0] rfl ?_
  exact hK106 _ _ _ h
set_option maxHeartbeats 4000000 in
set_option maxRecDepth 100000 in
theorem s5_layWet_c116 {G : GG} {K106 : Int32 → Int32 → MM → Prop} {Q : MM → Prop} (hK106 : ∀ (x1 : Int32) (x2 : Int32) (M : MM), K106 x1 x2 M → A5_layWet G Q 106 [(0, .ref (gA G 62)), (1, .int x1), (2, .int x2)] [] M) : ∀ (n : Nat) (x1 : Int32) (x2 : Int32) (x3 : Int32) (M : MM), D5_layWet_c116 K106 Q n x1 x2 x3 M → A5_layWet G Q 116 [(0, .ref (gA G 62)), (1, .int x1), (2, .int x2), (3, .int x3)] [] M := by
  intro n
  induction n with
  | zero => intro x1 x2 x3 M h; exact h.elim
  | succ n ih =>
    intro x1 x2 x3 M h
    unfold D5_layWet_c116 at h
    refine a_iload_n dX5_layWet_116 3 rfl ?_
    refine a_iconst (v := 4) dX5_layWet_117 (by decide) ?_
    refine a_icmp_ge (tgt := 142) dX5_layWet_118 (by decide) (fun c => ?_) (fun c => ?_)
    · have h := h.1 c
      refine a_sub [0, 1, 2] rfl ?_
      exact s5_layWet_c142 hK106 _ _ _ h
    · have h := h.2 c
      refine a_aload_n dX5_layWet_121 0 rfl ?_
      refine a_aload_n dX5_layWet_122 0 rfl ?_
      refine a_get3 dX5_layWet_123 13 (by decide) (tbc _ kF_RX5_31) (fun w h => tbc _ (uW3 w h)) rfl ob_62 rfl ?_
      refine a_iload_n dX5_layWet_126 2 rfl ?_
      refine a_iald dX5_layWet_127 h.1 ?_
      have h := h.2
      refine a_iload_n dX5_layWet_128 3 rfl ?_
      refine a_callSi (n := 2) [.int _, .int _] dX5_layWet_129 (s5_beside h) (gS tbc kM_RX5_108_X5_beside kT_X5_beside kN_RX5 kC_X5_beside) rfl (by decide +kernel) ⟨Nat.le_of_ble_eq_true rfl, Nat.le_of_ble_eq_true rfl⟩ rfl rfl (Nat.le_of_ble_eq_true rfl) ⟨Nat.le_refl 0, Nat.le_refl 0⟩ (fun r M h => ?_)
      refine a_iload_n dX5_layWet_132 1 rfl ?_
      refine a_callVv (n := 2) [.int _, .int _] (C := RX5) (ci := 3) (qc := (RX5, TX5, 40)) (fsF := fl3 G _) ob_62.1 (fun _ => en3 ob_62.2) rfl rfl dX5_layWet_133 (s5_becomeWet h) (gV tbc kM_RX5_104_X5_becomeWet kI_X5_becomeWet kS_X5_becomeWet kN_RX5 kC_X5_becomeWet) rfl (by decide +kernel) ⟨Nat.le_of_ble_eq_true rfl, Nat.le_of_ble_eq_true rfl⟩ rfl rfl (Nat.le_of_ble_eq_true rfl) ⟨Nat.le_refl 0, Nat.le_refl 0⟩ (fun M h => ?_)
      refine a_iinc (L' := [(3, .int _), (0, .ref _), (1, .int _), (2, .int _)]) dX5_layWet_136 3 rfl (show _ + Int32.ofInt (1 : Int) = _ + (1 : Int32) from rfl) (by decide) rfl ?_
      refine a_goto (tgt := 116) dX5_layWet_139 (by decide) ?_
      refine a_sub [1, 2, 3, 0] rfl ?_
      exact ih _ _ _ _ h
set_option maxHeartbeats 4000000 in
set_option maxRecDepth 100000 in
theorem s5_layWet_c106 {G : GG} {Q : MM → Prop} : ∀ (n : Nat) (x1 : Int32) (x2 : Int32) (M : MM), D5_layWet_c106 Q n x1 x2 M → A5_layWet G Q 106 [(0, .ref (gA G 62)), (1, .int x1), (2, .int x2)] [] M := by
  intro n
  induction n with
  | zero => intro x1 x2 M h; exact h.elim
  | succ n ih =>
    intro x1 x2 M h
    unfold D5_layWet_c106 at h
    refine a_iload_n dX5_layWet_106 2 rfl ?_
    refine a_aload_n dX5_layWet_107 0 rfl ?_
    refine a_get3 dX5_layWet_108 14 (by decide) (tbc _ kF_RX5_97) (fun w h => tbc _ (uW3 w h)) rfl ob_62 rfl ?_
    refine a_icmp_ge (tgt := 148) dX5_layWet_111 (by decide) (fun c => ?_) (fun c => ?_)
    · have h := h.1 c
      exact a_vret dX5_layWet_148 ⟨rfl, h⟩
    · have h := h.2 c
      refine a_iconst (v := 0) dX5_layWet_114 (by decide) ?_
      refine a_istore_n (i := 3) (L' := [(3, .int _), (0, .ref _), (1, .int _), (2, .int _)]) dX5_layWet_115 rfl (by decide) rfl ?_
      refine a_sub [1, 2, 3, 0] rfl ?_
      exact s5_layWet_c116 ih _ _ _ _ _ h
set_option maxHeartbeats 4000000 in
set_option maxRecDepth 100000 in
theorem s5_layWet_c104 {G : GG} {Q : MM → Prop} : ∀ (x1 : Int32) (M : MM), D5_layWet_c104 Q x1 M → A5_layWet G Q 104 [(0, .ref (gA G 62)), (1, .int x1)] [] M := by
  intro x1 M h
  unfold D5_layWet_c104 at h
  refine a_iconst (v := 0) dX5_layWet_104 (by decide) ?_
  refine a_istore_n (i := 2) (L' := [(2, .int _), (0, .ref _), (1, .int _)]) dX5_layWet_105 rfl (by decide) rfl ?_
  refine a_sub [1, 2, 0] rfl ?_
  exact s5_layWet_c106 _ _ _ _ h
set_option maxHeartbeats 4000000 in
set_option maxRecDepth 100000 in
theorem s5_layWet_c86 {G : GG} {Q : MM → Prop} : ∀ (n : Nat) (x1 : Int32) (x2 : Int32) (M : MM), D5_layWet_c86 Q n x1 x2 M → A5_layWet G Q 86 [(0, .ref (gA G 62)), (1, .int x1), (2, .int x2)] [] M := by
  intro n
  induction n with
  | zero => intro x1 x2 M h; exact h.elim
  | succ n ih =>
    intro x1 x2 M h
    unfold D5_layWet_c86 at h
    refine a_iload_n dX5_layWet_86 2 rfl ?_
    refine a_bipush (v := 25) dX5_layWet_87 (by decide) ?_
    refine a_icmp_ge (tgt := 104) dX5_layWet_89 (by decide) (fun c => ?_) (fun c => ?_)
    · have h := h.1 c
      refine a_sub [0, 1] rfl ?_
      exact s5_layWet_c104 _ _ h
    · have h := h.2 c
      refine a_aload_n dX5_layWet_92 0 rfl ?_
      refine a_iload_n dX5_layWet_93 2 rfl ?_
      refine a_iload_n dX5_layWet_94 1 rfl ?_
      refine a_callVv (n := 2) [.int _, .int _] (C := RX5) (ci := 3) (qc := (RX5, TX5, 40)) (fsF := fl3 G _) ob_62.1 (fun _ => en3 ob_62.2) rfl rfl dX5_layWet_95 (s5_becomeWet h) (gV tbc kM_RX5_104_X5_becomeWet kI_X5_becomeWet kS_X5_becomeWet kN_RX5 kC_X5_becomeWet) rfl (by decide +kernel) ⟨Nat.le_of_ble_eq_true rfl, Nat.le_of_ble_eq_true rfl⟩ rfl rfl (Nat.le_of_ble_eq_true rfl) ⟨Nat.le_refl 0, Nat.le_refl 0⟩ (fun M h => ?_)
      refine a_iinc (L' := [(2, .int _), (0, .ref _), (1, .int _)]) dX5_layWet_98 2 rfl (show _ + Int32.ofInt (1 : Int) = _ + (1 : Int32) from rfl) (by decide) rfl ?_
      refine a_goto (tgt := 86) dX5_layWet_101 (by decide) ?_
      refine a_sub [1, 2, 0] rfl ?_
      exact ih _ _ _ h
set_option maxHeartbeats 4000000 in
set_option maxRecDepth 100000 in
theorem s5_layWet_c73 {G : GG} {Q : MM → Prop} : ∀ (x1 : Int32) (M : MM), D5_layWet_c73 Q x1 M → A5_layWet G Q 73 [(0, .ref (gA G 62)), (1, .int x1)] [] M := by
  intro x1 M h
  unfold D5_layWet_c73 at h
  refine a_aload_n dX5_layWet_73 0 rfl ?_
  refine a_iconst (v := 0) dX5_layWet_74 (by decide) ?_
  refine a_put3 dX5_layWet_75 12 (by decide) (tbc _ kF_RX5_90) (fun w h => tbc _ (uW3 w h)) rfl rfl rfl rfl ob_62 fs3_12 ?_
  refine a_aload_n dX5_layWet_78 0 rfl ?_
  refine a_iconst (v := 0) dX5_layWet_79 (by decide) ?_
  refine a_put3 dX5_layWet_80 14 (by decide) (tbc _ kF_RX5_97) (fun w h => tbc _ (uW3 w h)) rfl rfl rfl rfl ob_62 fs3_14 ?_
  refine a_bipush (v := 20) dX5_layWet_83 (by decide) ?_
  refine a_istore_n (i := 2) (L' := [(2, .int _), (0, .ref _), (1, .int _)]) dX5_layWet_85 rfl (by decide) rfl ?_
  refine a_sub [1, 2, 0] rfl ?_
  exact s5_layWet_c86 _ _ _ _ h
set_option maxHeartbeats 4000000 in
set_option maxRecDepth 100000 in
theorem s5_layWet_c23 {G : GG} {Q : MM → Prop} : ∀ (n : Nat) (x1 : Int32) (x2 : Int32) (M : MM), D5_layWet_c23 Q n x1 x2 M → A5_layWet G Q 23 [(0, .ref (gA G 62)), (1, .int x1), (2, .int x2)] [] M := by
  intro n
  induction n with
  | zero => intro x1 x2 M h; exact h.elim
  | succ n ih =>
    intro x1 x2 M h
    unfold D5_layWet_c23 at h
    refine a_iload_n dX5_layWet_23 2 rfl ?_
    refine a_aload_n dX5_layWet_24 0 rfl ?_
    refine a_get3 dX5_layWet_25 0 (by decide) (tbc _ kF_RX5_77) (fun w h => tbc _ (uW3 w h)) rfl ob_62 rfl ?_
    refine a_icmp_ge (tgt := 73) dX5_layWet_28 (by decide) (fun c => ?_) (fun c => ?_)
    · have h := h.1 c
      refine a_sub [0, 1] rfl ?_
      exact s5_layWet_c73 _ _ h
    · have h := h.2 c
      refine a_aload_n dX5_layWet_31 0 rfl ?_
      refine a_get3 dX5_layWet_32 11 (by decide) (tbc _ kF_RX5_28) (fun w h => tbc _ (uW3 w h)) rfl ob_62 rfl ?_
      refine a_aload_n dX5_layWet_35 0 rfl ?_
      refine a_get3 dX5_layWet_36 3 (by decide) (tbc _ kF_RX5_16) (fun w h => tbc _ (uW3 w h)) rfl ob_62 rfl ?_
      refine a_iload_n dX5_layWet_39 2 rfl ?_
      refine a_iald dX5_layWet_40 h.1 ?_
      have h := h.2
      refine a_dup2 dX5_layWet_41 rfl rfl ?_
      refine a_iald dX5_layWet_42 h.1 ?_
      have h := h.2
      refine a_aload_n dX5_layWet_43 0 rfl ?_
      refine a_get3 dX5_layWet_44 5 (by decide) (tbc _ kF_RX5_22) (fun w h => tbc _ (uW3 w h)) rfl ob_62 rfl ?_
      refine a_iload_n dX5_layWet_47 2 rfl ?_
      refine a_iald dX5_layWet_48 h.1 ?_
      have h := h.2
      refine a_if_ne (tgt := 64) dX5_layWet_49 (by decide) (fun c => ?_) (fun c => ?_)
      · have h := h.1 c
        refine a_sub [0, 1, 2] rfl ?_
        exact s5_layWet_c64 ih _ _ _ _ _ _ h
      · have h := h.2 c
        refine a_aload_n dX5_layWet_52 0 rfl ?_
        refine a_iload_n dX5_layWet_53 2 rfl ?_
        refine a_callVi (n := 1) [.int _] (C := RX5) (ci := 3) (qc := (RX5, TX5, 40)) (fsF := fl3 G _) ob_62.1 (fun _ => en3 ob_62.2) rfl rfl dX5_layWet_54 (s5_isStop h) (gV tbc kM_RX5_100_X5_isStop kI_X5_isStop kS_X5_isStop kN_RX5 kC_X5_isStop) rfl (by decide +kernel) ⟨Nat.le_of_ble_eq_true rfl, Nat.le_of_ble_eq_true rfl⟩ rfl rfl (Nat.le_of_ble_eq_true rfl) ⟨Nat.le_refl 0, Nat.le_refl 0⟩ (fun r M h => ?_)
        refine a_if_eq (tgt := 64) dX5_layWet_57 (by decide) (fun c => ?_) (fun c => ?_)
        · have h := h.1 c
          refine a_sub [0, 1, 2] rfl ?_
          exact s5_layWet_c64 ih _ _ _ _ _ _ h
        · have h := h.2 c
          refine a_iconst (v := 1) dX5_layWet_60 (by decide) ?_
          refine a_goto (tgt := 65) dX5_layWet_61 (by decide) ?_
          refine a_sub [0, 1, 2] rfl ?_
          exact s5_layWet_c65 ih _ _ _ _ _ _ _ h
set_option maxHeartbeats 4000000 in
set_option maxRecDepth 100000 in
theorem s5_layWet_c21 {G : GG} {Q : MM → Prop} : ∀ (x1 : Int32) (M : MM), D5_layWet_c21 Q x1 M → A5_layWet G Q 21 [(0, .ref (gA G 62)), (1, .int x1)] [] M := by
  intro x1 M h
  unfold D5_layWet_c21 at h
  refine a_iconst (v := 0) dX5_layWet_21 (by decide) ?_
  refine a_istore_n (i := 2) (L' := [(2, .int _), (0, .ref _), (1, .int _)]) dX5_layWet_22 rfl (by decide) rfl ?_
  refine a_sub [1, 2, 0] rfl ?_
  exact s5_layWet_c23 _ _ _ _ h
set_option maxHeartbeats 4000000 in
set_option maxRecDepth 100000 in
theorem s5_layWet_c2 {G : GG} {Q : MM → Prop} : ∀ (n : Nat) (x1 : Int32) (x2 : Int32) (M : MM), D5_layWet_c2 Q n x1 x2 M → A5_layWet G Q 2 [(0, .ref (gA G 62)), (1, .int x1), (2, .int x2)] [] M := by
  intro n
  induction n with
  | zero => intro x1 x2 M h; exact h.elim
  | succ n ih =>
    intro x1 x2 M h
    unfold D5_layWet_c2 at h
    refine a_iload_n dX5_layWet_2 2 rfl ?_
    refine a_bipush (v := 25) dX5_layWet_3 (by decide) ?_
    refine a_icmp_ge (tgt := 21) dX5_layWet_5 (by decide) (fun c => ?_) (fun c => ?_)
    · have h := h.1 c
      refine a_sub [0, 1] rfl ?_
      exact s5_layWet_c21 _ _ h
    · have h := h.2 c
      refine a_aload_n dX5_layWet_8 0 rfl ?_
      refine a_get3 dX5_layWet_9 11 (by decide) (tbc _ kF_RX5_28) (fun w h => tbc _ (uW3 w h)) rfl ob_62 rfl ?_
      refine a_iload_n dX5_layWet_12 2 rfl ?_
      refine a_iconst (v := 0) dX5_layWet_13 (by decide) ?_
      refine a_iast dX5_layWet_14 h.1 ?_
      have h := h.2
      refine a_iinc (L' := [(2, .int _), (0, .ref _), (1, .int _)]) dX5_layWet_15 2 rfl (show _ + Int32.ofInt (1 : Int) = _ + (1 : Int32) from rfl) (by decide) rfl ?_
      refine a_goto (tgt := 2) dX5_layWet_18 (by decide) ?_
      refine a_sub [1, 2, 0] rfl ?_
      exact ih _ _ _ h
set_option maxHeartbeats 4000000 in
set_option maxRecDepth 100000 in
theorem s5_layWet {G : GG} {x1 : Int32} {M : MM} {Q : MM → Prop} (h : D5_layWet x1 M Q) : CM G yX5_layWet (WY yX5_layWet cX5_layWet 4 none) 2 43 [.ref (gA G 62), .int x1] M (qV Q) := by
  refine CM.of (cc := cX5_layWet) (nL := 4) (ret := none) (own := RX5) (by decide +kernel) rfl rfl (Nat.le_of_ble_eq_true rfl) ?_
  show A5_layWet G Q 0 [(0, .ref (gA G 62)), (1, .int x1)] [] M
  unfold D5_layWet at h
  refine a_iconst (v := 0) dX5_layWet_0 (by decide) ?_
  refine a_istore_n (i := 2) (L' := [(2, .int _), (0, .ref _), (1, .int _)]) dX5_layWet_1 rfl (by decide) rfl ?_
  refine a_sub [1, 2, 0] rfl ?_
  exact s5_layWet_c2 _ _ _ _ h

/-! X5_isWet -/
theorem dX5_isWet_0 : decode cX5_isWet 0 = .ok (.aload_n 0, 1) := by decide +kernel
theorem dX5_isWet_1 : decode cX5_isWet 1 = .ok (.getfield 90, 3) := by decide +kernel
theorem dX5_isWet_4 : decode cX5_isWet 4 = .ok (.iload_n 1, 1) := by decide +kernel
theorem dX5_isWet_5 : decode cX5_isWet 5 = .ok (.invokestatic 93, 3) := by decide +kernel
theorem dX5_isWet_8 : decode cX5_isWet 8 = .ok (.ireturn, 1) := by decide +kernel
abbrev A5_isWet (G : GG) (Q : Int32 → MM → Prop) := AW G E0 (MZ G (qI Q)) (WY yX5_isWet cX5_isWet 2 (some .boolean)) RX5 cX5_isWet 2 (some .boolean) ({ frames := 1, cells := 0, slots := 0, locals := 21 } : Room) 0 0
def D5_isWet (x1 : Int32) (M : MM) (Q : Int32 → MM → Prop) : Prop := D5_hasBit (M 62 12) x1 M (fun (r1 : Int32) (M2 : MM) => bo r1 ∧ Q r1 M2)
set_option maxHeartbeats 4000000 in
set_option maxRecDepth 100000 in
theorem s5_isWet {G : GG} {x1 : Int32} {M : MM} {Q : Int32 → MM → Prop} (h : D5_isWet x1 M Q) : CM G yX5_isWet (WY yX5_isWet cX5_isWet 2 (some .boolean)) 1 21 [.ref (gA G 62), .int x1] M (qI Q) := by
  refine CM.of (cc := cX5_isWet) (nL := 2) (ret := (some .boolean)) (own := RX5) (by decide +kernel) rfl rfl (Nat.le_of_ble_eq_true rfl) ?_
  show A5_isWet G Q 0 [(0, .ref (gA G 62)), (1, .int x1)] [] M
  unfold D5_isWet at h
  refine a_aload_n dX5_isWet_0 0 rfl ?_
  refine a_get3 dX5_isWet_1 12 (by decide) (tbc _ kF_RX5_90) (fun w h => tbc _ (uW3 w h)) rfl ob_62 rfl ?_
  refine a_iload_n dX5_isWet_4 1 rfl ?_
  refine a_callSi (n := 2) [.int _, .int _] dX5_isWet_5 (s5_hasBit h) (gS tbc kM_RX5_93_X5_hasBit kT_X5_hasBit kN_RX5 kC_X5_hasBit) rfl (by decide +kernel) ⟨Nat.le_of_ble_eq_true rfl, Nat.le_of_ble_eq_true rfl⟩ rfl rfl (Nat.le_of_ble_eq_true rfl) ⟨Nat.le_refl 0, Nat.le_refl 0⟩ (fun r M h => ?_)
  exact a_zret dX5_isWet_8 h.1 ⟨_, rfl, h.2⟩

/-! X5_behindBits -/
theorem dX5_behindBits_0 : decode cX5_behindBits 0 = .ok (.aload_n 0, 1) := by decide +kernel
theorem dX5_behindBits_1 : decode cX5_behindBits 1 = .ok (.iconst 5, 1) := by decide +kernel
theorem dX5_behindBits_2 : decode cX5_behindBits 2 = .ok (.invokevirtual 121, 3) := by decide +kernel
theorem dX5_behindBits_5 : decode cX5_behindBits 5 = .ok (.iconst 0, 1) := by decide +kernel
theorem dX5_behindBits_6 : decode cX5_behindBits 6 = .ok (.istore_n 1, 1) := by decide +kernel
theorem dX5_behindBits_7 : decode cX5_behindBits 7 = .ok (.iconst 0, 1) := by decide +kernel
theorem dX5_behindBits_8 : decode cX5_behindBits 8 = .ok (.istore_n 2, 1) := by decide +kernel
theorem dX5_behindBits_9 : decode cX5_behindBits 9 = .ok (.iload_n 2, 1) := by decide +kernel
theorem dX5_behindBits_10 : decode cX5_behindBits 10 = .ok (.aload_n 0, 1) := by decide +kernel
theorem dX5_behindBits_11 : decode cX5_behindBits 11 = .ok (.getfield 77, 3) := by decide +kernel
theorem dX5_behindBits_14 : decode cX5_behindBits 14 = .ok (.if_icmp .ge 41, 3) := by decide +kernel
theorem dX5_behindBits_17 : decode cX5_behindBits 17 = .ok (.iload_n 1, 1) := by decide +kernel
theorem dX5_behindBits_18 : decode cX5_behindBits 18 = .ok (.aload_n 0, 1) := by decide +kernel
theorem dX5_behindBits_19 : decode cX5_behindBits 19 = .ok (.getfield 22, 3) := by decide +kernel
theorem dX5_behindBits_22 : decode cX5_behindBits 22 = .ok (.iload_n 2, 1) := by decide +kernel
theorem dX5_behindBits_23 : decode cX5_behindBits 23 = .ok (.iaload, 1) := by decide +kernel
theorem dX5_behindBits_24 : decode cX5_behindBits 24 = .ok (.ifCond .ne 22, 3) := by decide +kernel
theorem dX5_behindBits_27 : decode cX5_behindBits 27 = .ok (.aload_n 0, 1) := by decide +kernel
theorem dX5_behindBits_28 : decode cX5_behindBits 28 = .ok (.aload_n 0, 1) := by decide +kernel
theorem dX5_behindBits_29 : decode cX5_behindBits 29 = .ok (.getfield 16, 3) := by decide +kernel
theorem dX5_behindBits_32 : decode cX5_behindBits 32 = .ok (.iload_n 2, 1) := by decide +kernel
theorem dX5_behindBits_33 : decode cX5_behindBits 33 = .ok (.iaload, 1) := by decide +kernel
theorem dX5_behindBits_34 : decode cX5_behindBits 34 = .ok (.invokevirtual 111, 3) := by decide +kernel
theorem dX5_behindBits_37 : decode cX5_behindBits 37 = .ok (.ifCond .ne 9, 3) := by decide +kernel
theorem dX5_behindBits_40 : decode cX5_behindBits 40 = .ok (.iconst 1, 1) := by decide +kernel
theorem dX5_behindBits_41 : decode cX5_behindBits 41 = .ok (.iload_n 2, 1) := by decide +kernel
theorem dX5_behindBits_42 : decode cX5_behindBits 42 = .ok (.ishl, 1) := by decide +kernel
theorem dX5_behindBits_43 : decode cX5_behindBits 43 = .ok (.goto 4, 3) := by decide +kernel
theorem dX5_behindBits_46 : decode cX5_behindBits 46 = .ok (.iconst 0, 1) := by decide +kernel
theorem dX5_behindBits_47 : decode cX5_behindBits 47 = .ok (.ior, 1) := by decide +kernel
theorem dX5_behindBits_48 : decode cX5_behindBits 48 = .ok (.istore_n 1, 1) := by decide +kernel
theorem dX5_behindBits_49 : decode cX5_behindBits 49 = .ok (.iinc 2 1, 3) := by decide +kernel
theorem dX5_behindBits_52 : decode cX5_behindBits 52 = .ok (.goto (-43), 3) := by decide +kernel
theorem dX5_behindBits_55 : decode cX5_behindBits 55 = .ok (.iload_n 1, 1) := by decide +kernel
theorem dX5_behindBits_56 : decode cX5_behindBits 56 = .ok (.ireturn, 1) := by decide +kernel
abbrev A5_behindBits (G : GG) (Q : Int32 → MM → Prop) := AW G E0 (MZ G (qI Q)) (WY yX5_behindBits cX5_behindBits 3 (some .int)) RX5 cX5_behindBits 3 (some .int) ({ frames := 3, cells := 0, slots := 0, locals := 66 } : Room) 0 0
def D5_behindBits_c47 (K9 : Int32 → Int32 → MM → Prop) (Q : Int32 → MM → Prop) (x2 : Int32) (s0 : Int32) (s1 : Int32) (M : MM) : Prop := (fun v5 : Int32 => (fun v6 : Int32 => K9 v5 v6 M) (x2 + (1 : Int32))) (s1 ||| s0)
def D5_behindBits_c46 (K9 : Int32 → Int32 → MM → Prop) (Q : Int32 → MM → Prop) (x2 : Int32) (s0 : Int32) (M : MM) : Prop := D5_behindBits_c47 K9 Q x2 (0 : Int32) s0 M
def D5_behindBits_c9 (Q : Int32 → MM → Prop) : Nat → Int32 → Int32 → MM → Prop
  | 0, _, _, _ => False
  | n + 1, x1, x2, M => (((M 62 0) ≤ x2 → Q x1 M) ∧ (¬ (M 62 0) ≤ x2 → ib 67 x2 ∧ (((M 67 (ix x2)) ≠ 0 → D5_behindBits_c46 (D5_behindBits_c9 Q n) Q x2 x1 M) ∧ ((M 67 (ix x2)) = 0 → ib 65 x2 ∧ D5_isWet (M 65 (ix x2)) M (fun (r3 : Int32) (M4 : MM) => ((r3 ≠ 0 → D5_behindBits_c46 (D5_behindBits_c9 Q n) Q x2 x1 M4) ∧ (r3 = 0 → D5_behindBits_c47 (D5_behindBits_c9 Q n) Q x2 ((1 : Int32) <<< (x2 &&& 31)) x1 M4)))))))
def D5_behindBits (M : MM) (Q : Int32 → MM → Prop) : Prop := D5_layWet (5 : Int32) M (fun (M2 : MM) => D5_behindBits_c9 Q FU (0 : Int32) (0 : Int32) M2)
set_option maxHeartbeats 4000000 in
set_option maxRecDepth 100000 in
theorem s5_behindBits_c47 {G : GG} {K9 : Int32 → Int32 → MM → Prop} {Q : Int32 → MM → Prop} (hK9 : ∀ (x1 : Int32) (x2 : Int32) (M : MM), K9 x1 x2 M → A5_behindBits G Q 9 [(0, .ref (gA G 62)), (1, .int x1), (2, .int x2)] [] M) : ∀ (x2 : Int32) (s0 : Int32) (s1 : Int32) (M : MM), D5_behindBits_c47 K9 Q x2 s0 s1 M → A5_behindBits G Q 47 [(0, .ref (gA G 62)), (2, .int x2)] [.int s0, .int s1] M := by
  intro x2 s0 s1 M h
  unfold D5_behindBits_c47 at h
  refine a_ior dX5_behindBits_47 ?_
  refine a_istore_n (i := 1) (L' := [(1, .int _), (0, .ref _), (2, .int _)]) dX5_behindBits_48 rfl (by decide) rfl ?_
  refine a_iinc (L' := [(2, .int _), (1, .int _), (0, .ref _)]) dX5_behindBits_49 2 rfl (show _ + Int32.ofInt (1 : Int) = _ + (1 : Int32) from rfl) (by decide) rfl ?_
  refine a_goto (tgt := 9) dX5_behindBits_52 (by decide) ?_
  refine a_sub [2, 1, 0] rfl ?_
  exact hK9 _ _ _ h
set_option maxHeartbeats 4000000 in
set_option maxRecDepth 100000 in
theorem s5_behindBits_c46 {G : GG} {K9 : Int32 → Int32 → MM → Prop} {Q : Int32 → MM → Prop} (hK9 : ∀ (x1 : Int32) (x2 : Int32) (M : MM), K9 x1 x2 M → A5_behindBits G Q 9 [(0, .ref (gA G 62)), (1, .int x1), (2, .int x2)] [] M) : ∀ (x2 : Int32) (s0 : Int32) (M : MM), D5_behindBits_c46 K9 Q x2 s0 M → A5_behindBits G Q 46 [(0, .ref (gA G 62)), (2, .int x2)] [.int s0] M := by
  intro x2 s0 M h
  unfold D5_behindBits_c46 at h
  refine a_iconst (v := 0) dX5_behindBits_46 (by decide) ?_
  refine a_sub [0, 1] rfl ?_
  exact s5_behindBits_c47 hK9 _ _ _ _ h
set_option maxHeartbeats 4000000 in
set_option maxRecDepth 100000 in
theorem s5_behindBits_c9 {G : GG} {Q : Int32 → MM → Prop} : ∀ (n : Nat) (x1 : Int32) (x2 : Int32) (M : MM), D5_behindBits_c9 Q n x1 x2 M → A5_behindBits G Q 9 [(0, .ref (gA G 62)), (1, .int x1), (2, .int x2)] [] M := by
  intro n
  induction n with
  | zero => intro x1 x2 M h; exact h.elim
  | succ n ih =>
    intro x1 x2 M h
    unfold D5_behindBits_c9 at h
    refine a_iload_n dX5_behindBits_9 2 rfl ?_
    refine a_aload_n dX5_behindBits_10 0 rfl ?_
    refine a_get3 dX5_behindBits_11 0 (by decide) (tbc _ kF_RX5_77) (fun w h => tbc _ (uW3 w h)) rfl ob_62 rfl ?_
    refine a_icmp_ge (tgt := 55) dX5_behindBits_14 (by decide) (fun c => ?_) (fun c => ?_)
    · have h := h.1 c
      refine a_iload_n dX5_behindBits_55 1 rfl ?_
      exact a_iret dX5_behindBits_56 ⟨_, rfl, h⟩
    · have h := h.2 c
      refine a_iload_n dX5_behindBits_17 1 rfl ?_
      refine a_aload_n dX5_behindBits_18 0 rfl ?_
      refine a_get3 dX5_behindBits_19 5 (by decide) (tbc _ kF_RX5_22) (fun w h => tbc _ (uW3 w h)) rfl ob_62 rfl ?_
      refine a_iload_n dX5_behindBits_22 2 rfl ?_
      refine a_iald dX5_behindBits_23 h.1 ?_
      have h := h.2
      refine a_if_ne (tgt := 46) dX5_behindBits_24 (by decide) (fun c => ?_) (fun c => ?_)
      · have h := h.1 c
        refine a_sub [0, 2] rfl ?_
        exact s5_behindBits_c46 ih _ _ _ h
      · have h := h.2 c
        refine a_aload_n dX5_behindBits_27 0 rfl ?_
        refine a_aload_n dX5_behindBits_28 0 rfl ?_
        refine a_get3 dX5_behindBits_29 3 (by decide) (tbc _ kF_RX5_16) (fun w h => tbc _ (uW3 w h)) rfl ob_62 rfl ?_
        refine a_iload_n dX5_behindBits_32 2 rfl ?_
        refine a_iald dX5_behindBits_33 h.1 ?_
        have h := h.2
        refine a_callVi (n := 1) [.int _] (C := RX5) (ci := 3) (qc := (RX5, TX5, 40)) (fsF := fl3 G _) ob_62.1 (fun _ => en3 ob_62.2) rfl rfl dX5_behindBits_34 (s5_isWet h) (gV tbc kM_RX5_111_X5_isWet kI_X5_isWet kS_X5_isWet kN_RX5 kC_X5_isWet) rfl (by decide +kernel) ⟨Nat.le_of_ble_eq_true rfl, Nat.le_of_ble_eq_true rfl⟩ rfl rfl (Nat.le_of_ble_eq_true rfl) ⟨Nat.le_refl 0, Nat.le_refl 0⟩ (fun r M h => ?_)
        refine a_if_ne (tgt := 46) dX5_behindBits_37 (by decide) (fun c => ?_) (fun c => ?_)
        · have h := h.1 c
          refine a_sub [0, 2] rfl ?_
          exact s5_behindBits_c46 ih _ _ _ h
        · have h := h.2 c
          refine a_iconst (v := 1) dX5_behindBits_40 (by decide) ?_
          refine a_iload_n dX5_behindBits_41 2 rfl ?_
          refine a_ishl dX5_behindBits_42 ?_
          refine a_goto (tgt := 47) dX5_behindBits_43 (by decide) ?_
          refine a_sub [0, 2] rfl ?_
          exact s5_behindBits_c47 ih _ _ _ _ h
set_option maxHeartbeats 4000000 in
set_option maxRecDepth 100000 in
theorem s5_behindBits {G : GG} {M : MM} {Q : Int32 → MM → Prop} (h : D5_behindBits M Q) : CM G yX5_behindBits (WY yX5_behindBits cX5_behindBits 3 (some .int)) 3 66 [.ref (gA G 62)] M (qI Q) := by
  refine CM.of (cc := cX5_behindBits) (nL := 3) (ret := (some .int)) (own := RX5) (by decide +kernel) rfl rfl (Nat.le_of_ble_eq_true rfl) ?_
  show A5_behindBits G Q 0 [(0, .ref (gA G 62))] [] M
  unfold D5_behindBits at h
  refine a_aload_n dX5_behindBits_0 0 rfl ?_
  refine a_iconst (v := 5) dX5_behindBits_1 (by decide) ?_
  refine a_callVv (n := 1) [.int _] (C := RX5) (ci := 3) (qc := (RX5, TX5, 40)) (fsF := fl3 G _) ob_62.1 (fun _ => en3 ob_62.2) rfl rfl dX5_behindBits_2 (s5_layWet h) (gV tbc kM_RX5_121_X5_layWet kI_X5_layWet kS_X5_layWet kN_RX5 kC_X5_layWet) rfl (by decide +kernel) ⟨Nat.le_of_ble_eq_true rfl, Nat.le_of_ble_eq_true rfl⟩ rfl rfl (Nat.le_of_ble_eq_true rfl) ⟨Nat.le_refl 0, Nat.le_refl 0⟩ (fun M h => ?_)
  refine a_iconst (v := 0) dX5_behindBits_5 (by decide) ?_
  refine a_istore_n (i := 1) (L' := [(1, .int _), (0, .ref _)]) dX5_behindBits_6 rfl (by decide) rfl ?_
  refine a_iconst (v := 0) dX5_behindBits_7 (by decide) ?_
  refine a_istore_n (i := 2) (L' := [(2, .int _), (1, .int _), (0, .ref _)]) dX5_behindBits_8 rfl (by decide) rfl ?_
  refine a_sub [2, 1, 0] rfl ?_
  exact s5_behindBits_c9 _ _ _ _ h

/-! X5_refuse -/
theorem dX5_refuse_0 : decode cX5_refuse 0 = .ok (.aload_n 0, 1) := by decide +kernel
theorem dX5_refuse_1 : decode cX5_refuse 1 = .ok (.getfield 25, 3) := by decide +kernel
theorem dX5_refuse_4 : decode cX5_refuse 4 = .ok (.iload_n 1, 1) := by decide +kernel
theorem dX5_refuse_5 : decode cX5_refuse 5 = .ok (.ineg, 1) := by decide +kernel
theorem dX5_refuse_6 : decode cX5_refuse 6 = .ok (.dup2, 1) := by decide +kernel
theorem dX5_refuse_7 : decode cX5_refuse 7 = .ok (.iaload, 1) := by decide +kernel
theorem dX5_refuse_8 : decode cX5_refuse 8 = .ok (.iconst 1, 1) := by decide +kernel
theorem dX5_refuse_9 : decode cX5_refuse 9 = .ok (.iadd, 1) := by decide +kernel
theorem dX5_refuse_10 : decode cX5_refuse 10 = .ok (.iastore, 1) := by decide +kernel
theorem dX5_refuse_11 : decode cX5_refuse 11 = .ok (.iload_n 1, 1) := by decide +kernel
theorem dX5_refuse_12 : decode cX5_refuse 12 = .ok (.ireturn, 1) := by decide +kernel
abbrev A5_refuse (G : GG) (Q : Int32 → MM → Prop) := AW G E0 (MZ G (qI Q)) (WY yX5_refuse cX5_refuse 2 (some .int)) RX5 cX5_refuse 2 (some .int) ({ frames := 0, cells := 0, slots := 0, locals := 0 } : Room) 0 0
def D5_refuse (x1 : Int32) (M : MM) (Q : Int32 → MM → Prop) : Prop := ib 68 (-x1) ∧ ib 68 (-x1) ∧ (fun M1 : MM => Q x1 M1) (up M 68 (ix (-x1)) ((M 68 (ix (-x1))) + (1 : Int32)))
set_option maxHeartbeats 4000000 in
set_option maxRecDepth 100000 in
theorem s5_refuse {G : GG} {x1 : Int32} {M : MM} {Q : Int32 → MM → Prop} (h : D5_refuse x1 M Q) : CM G yX5_refuse (WY yX5_refuse cX5_refuse 2 (some .int)) 0 0 [.ref (gA G 62), .int x1] M (qI Q) := by
  refine CM.of (cc := cX5_refuse) (nL := 2) (ret := (some .int)) (own := RX5) (by decide +kernel) rfl rfl (Nat.le_of_ble_eq_true rfl) ?_
  show A5_refuse G Q 0 [(0, .ref (gA G 62)), (1, .int x1)] [] M
  unfold D5_refuse at h
  refine a_aload_n dX5_refuse_0 0 rfl ?_
  refine a_get3 dX5_refuse_1 10 (by decide) (tbc _ kF_RX5_25) (fun w h => tbc _ (uW3 w h)) rfl ob_62 rfl ?_
  refine a_iload_n dX5_refuse_4 1 rfl ?_
  refine a_ineg dX5_refuse_5 ?_
  refine a_dup2 dX5_refuse_6 rfl rfl ?_
  refine a_iald dX5_refuse_7 h.1 ?_
  have h := h.2
  refine a_iconst (v := 1) dX5_refuse_8 (by decide) ?_
  refine a_iadd dX5_refuse_9 ?_
  refine a_iast dX5_refuse_10 h.1 ?_
  have h := h.2
  refine a_iload_n dX5_refuse_11 1 rfl ?_
  exact a_iret dX5_refuse_12 ⟨_, rfl, h⟩

/-! X5_assessed -/
theorem dX5_assessed_0 : decode cX5_assessed 0 = .ok (.aload_n 0, 1) := by decide +kernel
theorem dX5_assessed_1 : decode cX5_assessed 1 = .ok (.iconst 0, 1) := by decide +kernel
theorem dX5_assessed_2 : decode cX5_assessed 2 = .ok (.putfield 73, 3) := by decide +kernel
theorem dX5_assessed_5 : decode cX5_assessed 5 = .ok (.iload_n 1, 1) := by decide +kernel
theorem dX5_assessed_6 : decode cX5_assessed 6 = .ok (.tableswitch 65 0 3 #[30, 39, 44, 60], 30) := by decide +kernel
theorem dX5_assessed_36 : decode cX5_assessed 36 = .ok (.aload_n 0, 1) := by decide +kernel
theorem dX5_assessed_37 : decode cX5_assessed 37 = .ok (.aload_n 0, 1) := by decide +kernel
theorem dX5_assessed_38 : decode cX5_assessed 38 = .ok (.invokevirtual 251, 3) := by decide +kernel
theorem dX5_assessed_41 : decode cX5_assessed 41 = .ok (.invokevirtual 292, 3) := by decide +kernel
theorem dX5_assessed_44 : decode cX5_assessed 44 = .ok (.ireturn, 1) := by decide +kernel
theorem dX5_assessed_45 : decode cX5_assessed 45 = .ok (.aload_n 0, 1) := by decide +kernel
theorem dX5_assessed_46 : decode cX5_assessed 46 = .ok (.invokevirtual 295, 3) := by decide +kernel
theorem dX5_assessed_49 : decode cX5_assessed 49 = .ok (.ireturn, 1) := by decide +kernel
theorem dX5_assessed_50 : decode cX5_assessed 50 = .ok (.aload_n 0, 1) := by decide +kernel
theorem dX5_assessed_51 : decode cX5_assessed 51 = .ok (.getfield 137, 3) := by decide +kernel
theorem dX5_assessed_54 : decode cX5_assessed 54 = .ok (.aload_n 0, 1) := by decide +kernel
theorem dX5_assessed_55 : decode cX5_assessed 55 = .ok (.getfield 131, 3) := by decide +kernel
theorem dX5_assessed_58 : decode cX5_assessed 58 = .ok (.isub, 1) := by decide +kernel
theorem dX5_assessed_59 : decode cX5_assessed 59 = .ok (.sipush 9999, 3) := by decide +kernel
theorem dX5_assessed_62 : decode cX5_assessed 62 = .ok (.invokestatic 86, 3) := by decide +kernel
theorem dX5_assessed_65 : decode cX5_assessed 65 = .ok (.ireturn, 1) := by decide +kernel
theorem dX5_assessed_66 : decode cX5_assessed 66 = .ok (.aload_n 0, 1) := by decide +kernel
theorem dX5_assessed_67 : decode cX5_assessed 67 = .ok (.invokevirtual 298, 3) := by decide +kernel
theorem dX5_assessed_70 : decode cX5_assessed 70 = .ok (.ireturn, 1) := by decide +kernel
theorem dX5_assessed_71 : decode cX5_assessed 71 = .ok (.aload_n 0, 1) := by decide +kernel
theorem dX5_assessed_72 : decode cX5_assessed 72 = .ok (.bipush (-2), 2) := by decide +kernel
theorem dX5_assessed_74 : decode cX5_assessed 74 = .ok (.invokevirtual 149, 3) := by decide +kernel
theorem dX5_assessed_77 : decode cX5_assessed 77 = .ok (.ireturn, 1) := by decide +kernel
abbrev A5_assessed (G : GG) (Q : Int32 → MM → Prop) := AW G E0 (MZ G (qI Q)) (WY yX5_assessed cX5_assessed 2 (some .int)) RX5 cX5_assessed 2 (some .int) ({ frames := 4, cells := 0, slots := 0, locals := 88 } : Room) 0 0
def D5_assessed (x1 : Int32) (M : MM) (Q : Int32 → MM → Prop) : Prop := (fun M1 : MM => ((x1 = 0 → D5_standing M1 (fun (r2 : Int32) (M3 : MM) => D5_ratesIn r2 M3 (fun (r4 : Int32) (M5 : MM) => Q r4 M5))) ∧ (¬ x1 = 0 → ((x1 = 1 → D5_dearestOne M1 (fun (r6 : Int32) (M7 : MM) => Q r6 M7)) ∧ (¬ x1 = 1 → ((x1 = 2 → D5_held ((M1 62 7) - (M1 62 6)) (9999 : Int32) M1 (fun (r8 : Int32) (M9 : MM) => Q r8 M9)) ∧ (¬ x1 = 2 → ((x1 = 3 → D5_behindBits M1 (fun (r10 : Int32) (M11 : MM) => Q r10 M11)) ∧ (¬ x1 = 3 → D5_refuse (-2 : Int32) M1 (fun (r12 : Int32) (M13 : MM) => Q r12 M13)))))))))) (up M 62 9 (0 : Int32))
set_option maxHeartbeats 4000000 in
set_option maxRecDepth 100000 in
theorem s5_assessed {G : GG} {x1 : Int32} {M : MM} {Q : Int32 → MM → Prop} (h : D5_assessed x1 M Q) : CM G yX5_assessed (WY yX5_assessed cX5_assessed 2 (some .int)) 4 88 [.ref (gA G 62), .int x1] M (qI Q) := by
  refine CM.of (cc := cX5_assessed) (nL := 2) (ret := (some .int)) (own := RX5) (by decide +kernel) rfl rfl (Nat.le_of_ble_eq_true rfl) ?_
  show A5_assessed G Q 0 [(0, .ref (gA G 62)), (1, .int x1)] [] M
  unfold D5_assessed at h
  refine a_aload_n dX5_assessed_0 0 rfl ?_
  refine a_iconst (v := 0) dX5_assessed_1 (by decide) ?_
  refine a_put3 dX5_assessed_2 9 (by decide) (tbc _ kF_RX5_73) (fun w h => tbc _ (uW3 w h)) rfl rfl rfl rfl ob_62 fs3_9 ?_
  refine a_iload_n dX5_assessed_5 1 rfl ?_
  refine em_c h (fun c0 h => ?_) (fun c0 h => ?_)
  · refine a_tableIn (off := 30) (tgt := 36) dX5_assessed_6 (by rw [c0]; decide) (by rw [c0]; decide) (by rw [c0]; rfl) (by decide) ?_
    refine a_aload_n dX5_assessed_36 0 rfl ?_
    refine a_aload_n dX5_assessed_37 0 rfl ?_
    refine a_callVi (n := 0) [] (C := RX5) (ci := 3) (qc := (RX5, TX5, 40)) (fsF := fl3 G _) ob_62.1 (fun _ => en3 ob_62.2) rfl rfl dX5_assessed_38 (s5_standing h) (gV tbc kM_RX5_251_X5_standing kI_X5_standing kS_X5_standing kN_RX5 kC_X5_standing) rfl (by decide +kernel) ⟨Nat.le_of_ble_eq_true rfl, Nat.le_of_ble_eq_true rfl⟩ rfl rfl (Nat.le_of_ble_eq_true rfl) ⟨Nat.le_refl 0, Nat.le_refl 0⟩ (fun r M h => ?_)
    refine a_callVi (n := 1) [.int _] (C := RX5) (ci := 3) (qc := (RX5, TX5, 40)) (fsF := fl3 G _) ob_62.1 (fun _ => en3 ob_62.2) rfl rfl dX5_assessed_41 (s5_ratesIn h) (gV tbc kM_RX5_292_X5_ratesIn kI_X5_ratesIn kS_X5_ratesIn kN_RX5 kC_X5_ratesIn) rfl (by decide +kernel) ⟨Nat.le_of_ble_eq_true rfl, Nat.le_of_ble_eq_true rfl⟩ rfl rfl (Nat.le_of_ble_eq_true rfl) ⟨Nat.le_refl 0, Nat.le_refl 0⟩ (fun r M h => ?_)
    exact a_iret dX5_assessed_44 ⟨_, rfl, h⟩
  · refine em_c h (fun c1 h => ?_) (fun c1 h => ?_)
    · refine a_tableIn (off := 39) (tgt := 45) dX5_assessed_6 (by rw [c1]; decide) (by rw [c1]; decide) (by rw [c1]; rfl) (by decide) ?_
      refine a_aload_n dX5_assessed_45 0 rfl ?_
      refine a_callVi (n := 0) [] (C := RX5) (ci := 3) (qc := (RX5, TX5, 40)) (fsF := fl3 G _) ob_62.1 (fun _ => en3 ob_62.2) rfl rfl dX5_assessed_46 (s5_dearestOne h) (gV tbc kM_RX5_295_X5_dearestOne kI_X5_dearestOne kS_X5_dearestOne kN_RX5 kC_X5_dearestOne) rfl (by decide +kernel) ⟨Nat.le_of_ble_eq_true rfl, Nat.le_of_ble_eq_true rfl⟩ rfl rfl (Nat.le_of_ble_eq_true rfl) ⟨Nat.le_refl 0, Nat.le_refl 0⟩ (fun r M h => ?_)
      exact a_iret dX5_assessed_49 ⟨_, rfl, h⟩
    · refine em_c h (fun c2 h => ?_) (fun c2 h => ?_)
      · refine a_tableIn (off := 44) (tgt := 50) dX5_assessed_6 (by rw [c2]; decide) (by rw [c2]; decide) (by rw [c2]; rfl) (by decide) ?_
        refine a_aload_n dX5_assessed_50 0 rfl ?_
        refine a_get3 dX5_assessed_51 7 (by decide) (tbc _ kF_RX5_137) (fun w h => tbc _ (uW3 w h)) rfl ob_62 rfl ?_
        refine a_aload_n dX5_assessed_54 0 rfl ?_
        refine a_get3 dX5_assessed_55 6 (by decide) (tbc _ kF_RX5_131) (fun w h => tbc _ (uW3 w h)) rfl ob_62 rfl ?_
        refine a_isub dX5_assessed_58 ?_
        refine a_sipush (v := 9999) dX5_assessed_59 (by decide) ?_
        refine a_callSi (n := 2) [.int _, .int _] dX5_assessed_62 (s5_held h) (gS tbc kM_RX5_86_X5_held kT_X5_held kN_RX5 kC_X5_held) rfl (by decide +kernel) ⟨Nat.le_of_ble_eq_true rfl, Nat.le_of_ble_eq_true rfl⟩ rfl rfl (Nat.le_of_ble_eq_true rfl) ⟨Nat.le_refl 0, Nat.le_refl 0⟩ (fun r M h => ?_)
        exact a_iret dX5_assessed_65 ⟨_, rfl, h⟩
      · refine em_c h (fun c3 h => ?_) (fun c3 h => ?_)
        · refine a_tableIn (off := 60) (tgt := 66) dX5_assessed_6 (by rw [c3]; decide) (by rw [c3]; decide) (by rw [c3]; rfl) (by decide) ?_
          refine a_aload_n dX5_assessed_66 0 rfl ?_
          refine a_callVi (n := 0) [] (C := RX5) (ci := 3) (qc := (RX5, TX5, 40)) (fsF := fl3 G _) ob_62.1 (fun _ => en3 ob_62.2) rfl rfl dX5_assessed_67 (s5_behindBits h) (gV tbc kM_RX5_298_X5_behindBits kI_X5_behindBits kS_X5_behindBits kN_RX5 kC_X5_behindBits) rfl (by decide +kernel) ⟨Nat.le_of_ble_eq_true rfl, Nat.le_of_ble_eq_true rfl⟩ rfl rfl (Nat.le_of_ble_eq_true rfl) ⟨Nat.le_refl 0, Nat.le_refl 0⟩ (fun r M h => ?_)
          exact a_iret dX5_assessed_70 ⟨_, rfl, h⟩
        · refine a_tableD (tgt := 71) dX5_assessed_6 (by decide) (fun k h1 h2 e => by have hk : k = 0 ∨ k = 1 ∨ k = 2 ∨ k = 3 := (by omega); rcases hk with rfl | rfl | rfl | rfl <;> first | rfl | exact absurd e (ne_ti c0 (by decide)) | exact absurd e (ne_ti c1 (by decide)) | exact absurd e (ne_ti c2 (by decide)) | exact absurd e (ne_ti c3 (by decide))) ?_
          refine a_aload_n dX5_assessed_71 0 rfl ?_
          refine a_bipush (v := -2) dX5_assessed_72 (by decide) ?_
          refine a_callVi (n := 1) [.int _] (C := RX5) (ci := 3) (qc := (RX5, TX5, 40)) (fsF := fl3 G _) ob_62.1 (fun _ => en3 ob_62.2) rfl rfl dX5_assessed_74 (s5_refuse h) (gV tbc kM_RX5_149_X5_refuse kI_X5_refuse kS_X5_refuse kN_RX5 kC_X5_refuse) rfl (by decide +kernel) ⟨Nat.le_of_ble_eq_true rfl, Nat.le_of_ble_eq_true rfl⟩ rfl rfl (Nat.le_of_ble_eq_true rfl) ⟨Nat.le_refl 0, Nat.le_refl 0⟩ (fun r M h => ?_)
          exact a_iret dX5_assessed_77 ⟨_, rfl, h⟩

/-! X5_in -/
theorem dX5_in_0 : decode cX5_in 0 = .ok (.lload_n 0, 1) := by decide +kernel
theorem dX5_in_1 : decode cX5_in 1 = .ok (.lload_n 2, 1) := by decide +kernel
theorem dX5_in_2 : decode cX5_in 2 = .ok (.lcmp, 1) := by decide +kernel
theorem dX5_in_3 : decode cX5_in 3 = .ok (.ifCond .lt 14, 3) := by decide +kernel
theorem dX5_in_6 : decode cX5_in 6 = .ok (.lload_n 0, 1) := by decide +kernel
theorem dX5_in_7 : decode cX5_in 7 = .ok (.lload 4, 2) := by decide +kernel
theorem dX5_in_9 : decode cX5_in 9 = .ok (.lcmp, 1) := by decide +kernel
theorem dX5_in_10 : decode cX5_in 10 = .ok (.ifCond .gt 7, 3) := by decide +kernel
theorem dX5_in_13 : decode cX5_in 13 = .ok (.iconst 1, 1) := by decide +kernel
theorem dX5_in_14 : decode cX5_in 14 = .ok (.goto 4, 3) := by decide +kernel
theorem dX5_in_17 : decode cX5_in 17 = .ok (.iconst 0, 1) := by decide +kernel
theorem dX5_in_18 : decode cX5_in 18 = .ok (.ireturn, 1) := by decide +kernel
abbrev A5_in (G : GG) (Q : Int32 → MM → Prop) := AW G E0 (MZ G (qI Q)) (WY yX5_in cX5_in 6 (some .boolean)) RX5 cX5_in 6 (some .boolean) ({ frames := 0, cells := 0, slots := 0, locals := 0 } : Room) 0 0
def D5_in (x0 : Int64) (x2 : Int64) (x4 : Int64) (M : MM) (Q : Int32 → MM → Prop) : Prop := (((lg_cmp x0 x2) < 0 → Q (0 : Int32) M) ∧ (¬ (lg_cmp x0 x2) < 0 → ((0 < (lg_cmp x0 x4) → Q (0 : Int32) M) ∧ (¬ 0 < (lg_cmp x0 x4) → Q (1 : Int32) M))))
set_option maxHeartbeats 4000000 in
set_option maxRecDepth 100000 in
theorem s5_in {G : GG} {x0 : Int64} {x2 : Int64} {x4 : Int64} {M : MM} {Q : Int32 → MM → Prop} (h : D5_in x0 x2 x4 M Q) : CM G yX5_in (WY yX5_in cX5_in 6 (some .boolean)) 0 0 [.long x0, .long x2, .long x4] M (qI Q) := by
  refine CM.of (cc := cX5_in) (nL := 6) (ret := (some .boolean)) (own := RX5) (by decide +kernel) rfl rfl (Nat.le_of_ble_eq_true rfl) ?_
  show A5_in G Q 0 [(0, .long x0), (2, .long x2), (4, .long x4)] [] M
  unfold D5_in at h
  refine a_lload_n dX5_in_0 0 rfl ?_
  refine a_lload_n dX5_in_1 1 rfl ?_
  refine a_lcmp dX5_in_2 ?_
  refine a_if_lt (tgt := 17) dX5_in_3 (by decide) (fun c => ?_) (fun c => ?_)
  · have h := h.1 c
    refine a_iconst (v := 0) dX5_in_17 (by decide) ?_
    exact a_zret dX5_in_18 (Or.inl rfl) ⟨_, rfl, h⟩
  · have h := h.2 c
    refine a_lload_n dX5_in_6 0 rfl ?_
    refine a_lload dX5_in_7 2 rfl ?_
    refine a_lcmp dX5_in_9 ?_
    refine a_if_gt (tgt := 17) dX5_in_10 (by decide) (fun c => ?_) (fun c => ?_)
    · have h := h.1 c
      refine a_iconst (v := 0) dX5_in_17 (by decide) ?_
      exact a_zret dX5_in_18 (Or.inl rfl) ⟨_, rfl, h⟩
    · have h := h.2 c
      refine a_iconst (v := 1) dX5_in_13 (by decide) ?_
      refine a_goto (tgt := 18) dX5_in_14 (by decide) ?_
      exact a_zret dX5_in_18 (Or.inr rfl) ⟨_, rfl, h⟩

/-! X5_isCell -/
theorem dX5_isCell_0 : decode cX5_isCell 0 = .ok (.iload_n 0, 1) := by decide +kernel
theorem dX5_isCell_1 : decode cX5_isCell 1 = .ok (.i2l, 1) := by decide +kernel
theorem dX5_isCell_2 : decode cX5_isCell 2 = .ok (.lconst 0, 1) := by decide +kernel
theorem dX5_isCell_3 : decode cX5_isCell 3 = .ok (.ldc2_w 84, 3) := by decide +kernel
theorem dX5_isCell_6 : decode cX5_isCell 6 = .ok (.invokestatic 80, 3) := by decide +kernel
theorem dX5_isCell_9 : decode cX5_isCell 9 = .ok (.ireturn, 1) := by decide +kernel
abbrev A5_isCell (G : GG) (Q : Int32 → MM → Prop) := AW G E0 (MZ G (qI Q)) (WY yX5_isCell cX5_isCell 1 (some .boolean)) RX5 cX5_isCell 1 (some .boolean) ({ frames := 1, cells := 0, slots := 0, locals := 25 } : Room) 0 0
def D5_isCell (x0 : Int32) (M : MM) (Q : Int32 → MM → Prop) : Prop := D5_in x0.toInt64 (0 : Int64) (24 : Int64) M (fun (r1 : Int32) (M2 : MM) => bo r1 ∧ Q r1 M2)
set_option maxHeartbeats 4000000 in
set_option maxRecDepth 100000 in
theorem s5_isCell {G : GG} {x0 : Int32} {M : MM} {Q : Int32 → MM → Prop} (h : D5_isCell x0 M Q) : CM G yX5_isCell (WY yX5_isCell cX5_isCell 1 (some .boolean)) 1 25 [.int x0] M (qI Q) := by
  refine CM.of (cc := cX5_isCell) (nL := 1) (ret := (some .boolean)) (own := RX5) (by decide +kernel) rfl rfl (Nat.le_of_ble_eq_true rfl) ?_
  show A5_isCell G Q 0 [(0, .int x0)] [] M
  unfold D5_isCell at h
  refine a_iload_n dX5_isCell_0 0 rfl ?_
  refine a_i2l dX5_isCell_1 ?_
  refine a_lconst (v := 0) dX5_isCell_2 (by decide) ?_
  refine a_ldc2 dX5_isCell_3 (tbc _ kL_RX5_84) ?_
  refine a_callSi (n := 3) [.long _, .long _, .long _] dX5_isCell_6 (s5_in h) (gS tbc kM_RX5_80_X5_in kT_X5_in kN_RX5 kC_X5_in) rfl (by decide +kernel) ⟨Nat.le_of_ble_eq_true rfl, Nat.le_of_ble_eq_true rfl⟩ rfl rfl (Nat.le_of_ble_eq_true rfl) ⟨Nat.le_refl 0, Nat.le_refl 0⟩ (fun r M h => ?_)
  exact a_zret dX5_isCell_9 h.1 ⟨_, rfl, h.2⟩

/-! X5_workAt -/
theorem dX5_workAt_0 : decode cX5_workAt 0 = .ok (.bipush (-9), 2) := by decide +kernel
theorem dX5_workAt_2 : decode cX5_workAt 2 = .ok (.istore_n 2, 1) := by decide +kernel
theorem dX5_workAt_3 : decode cX5_workAt 3 = .ok (.iconst 0, 1) := by decide +kernel
theorem dX5_workAt_4 : decode cX5_workAt 4 = .ok (.istore_n 3, 1) := by decide +kernel
theorem dX5_workAt_5 : decode cX5_workAt 5 = .ok (.iload_n 3, 1) := by decide +kernel
theorem dX5_workAt_6 : decode cX5_workAt 6 = .ok (.aload_n 0, 1) := by decide +kernel
theorem dX5_workAt_7 : decode cX5_workAt 7 = .ok (.getfield 77, 3) := by decide +kernel
theorem dX5_workAt_10 : decode cX5_workAt 10 = .ok (.if_icmp .ge 34, 3) := by decide +kernel
theorem dX5_workAt_13 : decode cX5_workAt 13 = .ok (.aload_n 0, 1) := by decide +kernel
theorem dX5_workAt_14 : decode cX5_workAt 14 = .ok (.getfield 22, 3) := by decide +kernel
theorem dX5_workAt_17 : decode cX5_workAt 17 = .ok (.iload_n 3, 1) := by decide +kernel
theorem dX5_workAt_18 : decode cX5_workAt 18 = .ok (.iaload, 1) := by decide +kernel
theorem dX5_workAt_19 : decode cX5_workAt 19 = .ok (.ifCond .ne 17, 3) := by decide +kernel
theorem dX5_workAt_22 : decode cX5_workAt 22 = .ok (.aload_n 0, 1) := by decide +kernel
theorem dX5_workAt_23 : decode cX5_workAt 23 = .ok (.getfield 16, 3) := by decide +kernel
theorem dX5_workAt_26 : decode cX5_workAt 26 = .ok (.iload_n 3, 1) := by decide +kernel
theorem dX5_workAt_27 : decode cX5_workAt 27 = .ok (.iaload, 1) := by decide +kernel
theorem dX5_workAt_28 : decode cX5_workAt 28 = .ok (.iload_n 1, 1) := by decide +kernel
theorem dX5_workAt_29 : decode cX5_workAt 29 = .ok (.if_icmp .ne 7, 3) := by decide +kernel
theorem dX5_workAt_32 : decode cX5_workAt 32 = .ok (.iload_n 3, 1) := by decide +kernel
theorem dX5_workAt_33 : decode cX5_workAt 33 = .ok (.goto 4, 3) := by decide +kernel
theorem dX5_workAt_36 : decode cX5_workAt 36 = .ok (.iload_n 2, 1) := by decide +kernel
theorem dX5_workAt_37 : decode cX5_workAt 37 = .ok (.istore_n 2, 1) := by decide +kernel
theorem dX5_workAt_38 : decode cX5_workAt 38 = .ok (.iinc 3 1, 3) := by decide +kernel
theorem dX5_workAt_41 : decode cX5_workAt 41 = .ok (.goto (-36), 3) := by decide +kernel
theorem dX5_workAt_44 : decode cX5_workAt 44 = .ok (.iload_n 2, 1) := by decide +kernel
theorem dX5_workAt_45 : decode cX5_workAt 45 = .ok (.ireturn, 1) := by decide +kernel
abbrev A5_workAt (G : GG) (Q : Int32 → MM → Prop) := AW G E0 (MZ G (qI Q)) (WY yX5_workAt cX5_workAt 4 (some .int)) RX5 cX5_workAt 4 (some .int) ({ frames := 0, cells := 0, slots := 0, locals := 0 } : Room) 0 0
def D5_workAt_c37 (K5 : Int32 → Int32 → Int32 → MM → Prop) (Q : Int32 → MM → Prop) (x1 : Int32) (x3 : Int32) (s0 : Int32) (M : MM) : Prop := (fun v1 : Int32 => K5 x1 s0 v1 M) (x3 + (1 : Int32))
def D5_workAt_c36 (K5 : Int32 → Int32 → Int32 → MM → Prop) (Q : Int32 → MM → Prop) (x1 : Int32) (x2 : Int32) (x3 : Int32) (M : MM) : Prop := D5_workAt_c37 K5 Q x1 x3 x2 M
def D5_workAt_c5 (Q : Int32 → MM → Prop) : Nat → Int32 → Int32 → Int32 → MM → Prop
  | 0, _, _, _, _ => False
  | n + 1, x1, x2, x3, M => (((M 62 0) ≤ x3 → Q x2 M) ∧ (¬ (M 62 0) ≤ x3 → ib 67 x3 ∧ (((M 67 (ix x3)) ≠ 0 → D5_workAt_c36 (D5_workAt_c5 Q n) Q x1 x2 x3 M) ∧ ((M 67 (ix x3)) = 0 → ib 65 x3 ∧ (((M 65 (ix x3)) ≠ x1 → D5_workAt_c36 (D5_workAt_c5 Q n) Q x1 x2 x3 M) ∧ ((M 65 (ix x3)) = x1 → D5_workAt_c37 (D5_workAt_c5 Q n) Q x1 x3 x3 M))))))
def D5_workAt (x1 : Int32) (M : MM) (Q : Int32 → MM → Prop) : Prop := D5_workAt_c5 Q FU x1 (-9 : Int32) (0 : Int32) M
set_option maxHeartbeats 4000000 in
set_option maxRecDepth 100000 in
theorem s5_workAt_c37 {G : GG} {K5 : Int32 → Int32 → Int32 → MM → Prop} {Q : Int32 → MM → Prop} (hK5 : ∀ (x1 : Int32) (x2 : Int32) (x3 : Int32) (M : MM), K5 x1 x2 x3 M → A5_workAt G Q 5 [(0, .ref (gA G 62)), (1, .int x1), (2, .int x2), (3, .int x3)] [] M) : ∀ (x1 : Int32) (x3 : Int32) (s0 : Int32) (M : MM), D5_workAt_c37 K5 Q x1 x3 s0 M → A5_workAt G Q 37 [(0, .ref (gA G 62)), (1, .int x1), (3, .int x3)] [.int s0] M := by
  intro x1 x3 s0 M h
  unfold D5_workAt_c37 at h
  refine a_istore_n (i := 2) (L' := [(2, .int _), (0, .ref _), (1, .int _), (3, .int _)]) dX5_workAt_37 rfl (by decide) rfl ?_
  refine a_iinc (L' := [(3, .int _), (2, .int _), (0, .ref _), (1, .int _)]) dX5_workAt_38 3 rfl (show _ + Int32.ofInt (1 : Int) = _ + (1 : Int32) from rfl) (by decide) rfl ?_
  refine a_goto (tgt := 5) dX5_workAt_41 (by decide) ?_
  refine a_sub [2, 3, 1, 0] rfl ?_
  exact hK5 _ _ _ _ h
set_option maxHeartbeats 4000000 in
set_option maxRecDepth 100000 in
theorem s5_workAt_c36 {G : GG} {K5 : Int32 → Int32 → Int32 → MM → Prop} {Q : Int32 → MM → Prop} (hK5 : ∀ (x1 : Int32) (x2 : Int32) (x3 : Int32) (M : MM), K5 x1 x2 x3 M → A5_workAt G Q 5 [(0, .ref (gA G 62)), (1, .int x1), (2, .int x2), (3, .int x3)] [] M) : ∀ (x1 : Int32) (x2 : Int32) (x3 : Int32) (M : MM), D5_workAt_c36 K5 Q x1 x2 x3 M → A5_workAt G Q 36 [(0, .ref (gA G 62)), (1, .int x1), (2, .int x2), (3, .int x3)] [] M := by
  intro x1 x2 x3 M h
  unfold D5_workAt_c36 at h
  refine a_iload_n dX5_workAt_36 2 rfl ?_
  refine a_sub [0, 1, 3] rfl ?_
  exact s5_workAt_c37 hK5 _ _ _ _ h
set_option maxHeartbeats 4000000 in
set_option maxRecDepth 100000 in
theorem s5_workAt_c5 {G : GG} {Q : Int32 → MM → Prop} : ∀ (n : Nat) (x1 : Int32) (x2 : Int32) (x3 : Int32) (M : MM), D5_workAt_c5 Q n x1 x2 x3 M → A5_workAt G Q 5 [(0, .ref (gA G 62)), (1, .int x1), (2, .int x2), (3, .int x3)] [] M := by
  intro n
  induction n with
  | zero => intro x1 x2 x3 M h; exact h.elim
  | succ n ih =>
    intro x1 x2 x3 M h
    unfold D5_workAt_c5 at h
    refine a_iload_n dX5_workAt_5 3 rfl ?_
    refine a_aload_n dX5_workAt_6 0 rfl ?_
    refine a_get3 dX5_workAt_7 0 (by decide) (tbc _ kF_RX5_77) (fun w h => tbc _ (uW3 w h)) rfl ob_62 rfl ?_
    refine a_icmp_ge (tgt := 44) dX5_workAt_10 (by decide) (fun c => ?_) (fun c => ?_)
    · have h := h.1 c
      refine a_iload_n dX5_workAt_44 2 rfl ?_
      exact a_iret dX5_workAt_45 ⟨_, rfl, h⟩
    · have h := h.2 c
      refine a_aload_n dX5_workAt_13 0 rfl ?_
      refine a_get3 dX5_workAt_14 5 (by decide) (tbc _ kF_RX5_22) (fun w h => tbc _ (uW3 w h)) rfl ob_62 rfl ?_
      refine a_iload_n dX5_workAt_17 3 rfl ?_
      refine a_iald dX5_workAt_18 h.1 ?_
      have h := h.2
      refine a_if_ne (tgt := 36) dX5_workAt_19 (by decide) (fun c => ?_) (fun c => ?_)
      · have h := h.1 c
        refine a_sub [0, 1, 2, 3] rfl ?_
        exact s5_workAt_c36 ih _ _ _ _ h
      · have h := h.2 c
        refine a_aload_n dX5_workAt_22 0 rfl ?_
        refine a_get3 dX5_workAt_23 3 (by decide) (tbc _ kF_RX5_16) (fun w h => tbc _ (uW3 w h)) rfl ob_62 rfl ?_
        refine a_iload_n dX5_workAt_26 3 rfl ?_
        refine a_iald dX5_workAt_27 h.1 ?_
        have h := h.2
        refine a_iload_n dX5_workAt_28 1 rfl ?_
        refine a_icmp_ne (tgt := 36) dX5_workAt_29 (by decide) (fun c => ?_) (fun c => ?_)
        · have h := h.1 c
          refine a_sub [0, 1, 2, 3] rfl ?_
          exact s5_workAt_c36 ih _ _ _ _ h
        · have h := h.2 c
          refine a_iload_n dX5_workAt_32 3 rfl ?_
          refine a_goto (tgt := 37) dX5_workAt_33 (by decide) ?_
          refine a_sub [0, 1, 3] rfl ?_
          exact s5_workAt_c37 ih _ _ _ _ h
set_option maxHeartbeats 4000000 in
set_option maxRecDepth 100000 in
theorem s5_workAt {G : GG} {x1 : Int32} {M : MM} {Q : Int32 → MM → Prop} (h : D5_workAt x1 M Q) : CM G yX5_workAt (WY yX5_workAt cX5_workAt 4 (some .int)) 0 0 [.ref (gA G 62), .int x1] M (qI Q) := by
  refine CM.of (cc := cX5_workAt) (nL := 4) (ret := (some .int)) (own := RX5) (by decide +kernel) rfl rfl (Nat.le_of_ble_eq_true rfl) ?_
  show A5_workAt G Q 0 [(0, .ref (gA G 62)), (1, .int x1)] [] M
  unfold D5_workAt at h
  refine a_bipush (v := -9) dX5_workAt_0 (by decide) ?_
  refine a_istore_n (i := 2) (L' := [(2, .int _), (0, .ref _), (1, .int _)]) dX5_workAt_2 rfl (by decide) rfl ?_
  refine a_iconst (v := 0) dX5_workAt_3 (by decide) ?_
  refine a_istore_n (i := 3) (L' := [(3, .int _), (2, .int _), (0, .ref _), (1, .int _)]) dX5_workAt_4 rfl (by decide) rfl ?_
  refine a_sub [2, 3, 1, 0] rfl ?_
  exact s5_workAt_c5 _ _ _ _ _ h

/-! X5_at -/
theorem dX5_at_0 : decode cX5_at 0 = .ok (.aload_n 0, 1) := by decide +kernel
theorem dX5_at_1 : decode cX5_at 1 = .ok (.iconst 0, 1) := by decide +kernel
theorem dX5_at_2 : decode cX5_at 2 = .ok (.putfield 73, 3) := by decide +kernel
theorem dX5_at_5 : decode cX5_at 5 = .ok (.iload_n 1, 1) := by decide +kernel
theorem dX5_at_6 : decode cX5_at 6 = .ok (.invokestatic 185, 3) := by decide +kernel
theorem dX5_at_9 : decode cX5_at 9 = .ok (.ifCond .eq 11, 3) := by decide +kernel
theorem dX5_at_12 : decode cX5_at 12 = .ok (.aload_n 0, 1) := by decide +kernel
theorem dX5_at_13 : decode cX5_at 13 = .ok (.iload_n 1, 1) := by decide +kernel
theorem dX5_at_14 : decode cX5_at 14 = .ok (.invokevirtual 188, 3) := by decide +kernel
theorem dX5_at_17 : decode cX5_at 17 = .ok (.goto 8, 3) := by decide +kernel
theorem dX5_at_20 : decode cX5_at 20 = .ok (.aload_n 0, 1) := by decide +kernel
theorem dX5_at_21 : decode cX5_at 21 = .ok (.iconst (-1), 1) := by decide +kernel
theorem dX5_at_22 : decode cX5_at 22 = .ok (.invokevirtual 149, 3) := by decide +kernel
theorem dX5_at_25 : decode cX5_at 25 = .ok (.ireturn, 1) := by decide +kernel
abbrev A5_at (G : GG) (Q : Int32 → MM → Prop) := AW G E0 (MZ G (qI Q)) (WY yX5_at cX5_at 2 (some .int)) RX5 cX5_at 2 (some .int) ({ frames := 2, cells := 0, slots := 0, locals := 45 } : Room) 0 0
def D5_at (x1 : Int32) (M : MM) (Q : Int32 → MM → Prop) : Prop := (fun M1 : MM => D5_isCell x1 M1 (fun (r2 : Int32) (M3 : MM) => ((r2 = 0 → D5_refuse (-1 : Int32) M3 (fun (r4 : Int32) (M5 : MM) => Q r4 M5)) ∧ (¬ r2 = 0 → D5_workAt x1 M3 (fun (r6 : Int32) (M7 : MM) => Q r6 M7))))) (up M 62 9 (0 : Int32))
set_option maxHeartbeats 4000000 in
set_option maxRecDepth 100000 in
theorem s5_at {G : GG} {x1 : Int32} {M : MM} {Q : Int32 → MM → Prop} (h : D5_at x1 M Q) : CM G yX5_at (WY yX5_at cX5_at 2 (some .int)) 2 45 [.ref (gA G 62), .int x1] M (qI Q) := by
  refine CM.of (cc := cX5_at) (nL := 2) (ret := (some .int)) (own := RX5) (by decide +kernel) rfl rfl (Nat.le_of_ble_eq_true rfl) ?_
  show A5_at G Q 0 [(0, .ref (gA G 62)), (1, .int x1)] [] M
  unfold D5_at at h
  refine a_aload_n dX5_at_0 0 rfl ?_
  refine a_iconst (v := 0) dX5_at_1 (by decide) ?_
  refine a_put3 dX5_at_2 9 (by decide) (tbc _ kF_RX5_73) (fun w h => tbc _ (uW3 w h)) rfl rfl rfl rfl ob_62 fs3_9 ?_
  refine a_iload_n dX5_at_5 1 rfl ?_
  refine a_callSi (n := 1) [.int _] dX5_at_6 (s5_isCell h) (gS tbc kM_RX5_185_X5_isCell kT_X5_isCell kN_RX5 kC_X5_isCell) rfl (by decide +kernel) ⟨Nat.le_of_ble_eq_true rfl, Nat.le_of_ble_eq_true rfl⟩ rfl rfl (Nat.le_of_ble_eq_true rfl) ⟨Nat.le_refl 0, Nat.le_refl 0⟩ (fun r M h => ?_)
  refine a_if_eq (tgt := 20) dX5_at_9 (by decide) (fun c => ?_) (fun c => ?_)
  · have h := h.1 c
    refine a_aload_n dX5_at_20 0 rfl ?_
    refine a_iconst (v := -1) dX5_at_21 (by decide) ?_
    refine a_callVi (n := 1) [.int _] (C := RX5) (ci := 3) (qc := (RX5, TX5, 40)) (fsF := fl3 G _) ob_62.1 (fun _ => en3 ob_62.2) rfl rfl dX5_at_22 (s5_refuse h) (gV tbc kM_RX5_149_X5_refuse kI_X5_refuse kS_X5_refuse kN_RX5 kC_X5_refuse) rfl (by decide +kernel) ⟨Nat.le_of_ble_eq_true rfl, Nat.le_of_ble_eq_true rfl⟩ rfl rfl (Nat.le_of_ble_eq_true rfl) ⟨Nat.le_refl 0, Nat.le_refl 0⟩ (fun r M h => ?_)
    exact a_iret dX5_at_25 ⟨_, rfl, h⟩
  · have h := h.2 c
    refine a_aload_n dX5_at_12 0 rfl ?_
    refine a_iload_n dX5_at_13 1 rfl ?_
    refine a_callVi (n := 1) [.int _] (C := RX5) (ci := 3) (qc := (RX5, TX5, 40)) (fsF := fl3 G _) ob_62.1 (fun _ => en3 ob_62.2) rfl rfl dX5_at_14 (s5_workAt h) (gV tbc kM_RX5_188_X5_workAt kI_X5_workAt kS_X5_workAt kN_RX5 kC_X5_workAt) rfl (by decide +kernel) ⟨Nat.le_of_ble_eq_true rfl, Nat.le_of_ble_eq_true rfl⟩ rfl rfl (Nat.le_of_ble_eq_true rfl) ⟨Nat.le_refl 0, Nat.le_refl 0⟩ (fun r M h => ?_)
    refine a_goto (tgt := 25) dX5_at_17 (by decide) ?_
    exact a_iret dX5_at_25 ⟨_, rfl, h⟩

/-! X5_back -/
theorem dX5_back_0 : decode cX5_back 0 = .ok (.aload_n 0, 1) := by decide +kernel
theorem dX5_back_1 : decode cX5_back 1 = .ok (.iconst 0, 1) := by decide +kernel
theorem dX5_back_2 : decode cX5_back 2 = .ok (.putfield 73, 3) := by decide +kernel
theorem dX5_back_5 : decode cX5_back 5 = .ok (.aload_n 0, 1) := by decide +kernel
theorem dX5_back_6 : decode cX5_back 6 = .ok (.getfield 218, 3) := by decide +kernel
theorem dX5_back_9 : decode cX5_back 9 = .ok (.ifCond .ne 10, 3) := by decide +kernel
theorem dX5_back_12 : decode cX5_back 12 = .ok (.aload_n 0, 1) := by decide +kernel
theorem dX5_back_13 : decode cX5_back 13 = .ok (.bipush (-3), 2) := by decide +kernel
theorem dX5_back_15 : decode cX5_back 15 = .ok (.invokevirtual 149, 3) := by decide +kernel
theorem dX5_back_18 : decode cX5_back 18 = .ok (.ireturn, 1) := by decide +kernel
theorem dX5_back_19 : decode cX5_back 19 = .ok (.aload_n 0, 1) := by decide +kernel
theorem dX5_back_20 : decode cX5_back 20 = .ok (.dup, 1) := by decide +kernel
theorem dX5_back_21 : decode cX5_back 21 = .ok (.getfield 218, 3) := by decide +kernel
theorem dX5_back_24 : decode cX5_back 24 = .ok (.iconst 1, 1) := by decide +kernel
theorem dX5_back_25 : decode cX5_back 25 = .ok (.isub, 1) := by decide +kernel
theorem dX5_back_26 : decode cX5_back 26 = .ok (.putfield 218, 3) := by decide +kernel
theorem dX5_back_29 : decode cX5_back 29 = .ok (.iconst 0, 1) := by decide +kernel
theorem dX5_back_30 : decode cX5_back 30 = .ok (.istore_n 1, 1) := by decide +kernel
theorem dX5_back_31 : decode cX5_back 31 = .ok (.iload_n 1, 1) := by decide +kernel
theorem dX5_back_32 : decode cX5_back 32 = .ok (.bipush 44, 2) := by decide +kernel
theorem dX5_back_34 : decode cX5_back 34 = .ok (.if_icmp .ge 29, 3) := by decide +kernel
theorem dX5_back_37 : decode cX5_back 37 = .ok (.aload_n 0, 1) := by decide +kernel
theorem dX5_back_38 : decode cX5_back 38 = .ok (.getfield 55, 3) := by decide +kernel
theorem dX5_back_41 : decode cX5_back 41 = .ok (.iload_n 1, 1) := by decide +kernel
theorem dX5_back_42 : decode cX5_back 42 = .ok (.aload_n 0, 1) := by decide +kernel
theorem dX5_back_43 : decode cX5_back 43 = .ok (.getfield 52, 3) := by decide +kernel
theorem dX5_back_46 : decode cX5_back 46 = .ok (.bipush 44, 2) := by decide +kernel
theorem dX5_back_48 : decode cX5_back 48 = .ok (.aload_n 0, 1) := by decide +kernel
theorem dX5_back_49 : decode cX5_back 49 = .ok (.getfield 218, 3) := by decide +kernel
theorem dX5_back_52 : decode cX5_back 52 = .ok (.imul, 1) := by decide +kernel
theorem dX5_back_53 : decode cX5_back 53 = .ok (.iload_n 1, 1) := by decide +kernel
theorem dX5_back_54 : decode cX5_back 54 = .ok (.iadd, 1) := by decide +kernel
theorem dX5_back_55 : decode cX5_back 55 = .ok (.iaload, 1) := by decide +kernel
theorem dX5_back_56 : decode cX5_back 56 = .ok (.iastore, 1) := by decide +kernel
theorem dX5_back_57 : decode cX5_back 57 = .ok (.iinc 1 1, 3) := by decide +kernel
theorem dX5_back_60 : decode cX5_back 60 = .ok (.goto (-29), 3) := by decide +kernel
theorem dX5_back_63 : decode cX5_back 63 = .ok (.aload_n 0, 1) := by decide +kernel
theorem dX5_back_64 : decode cX5_back 64 = .ok (.aload_n 0, 1) := by decide +kernel
theorem dX5_back_65 : decode cX5_back 65 = .ok (.getfield 55, 3) := by decide +kernel
theorem dX5_back_68 : decode cX5_back 68 = .ok (.iconst 0, 1) := by decide +kernel
theorem dX5_back_69 : decode cX5_back 69 = .ok (.invokevirtual 233, 3) := by decide +kernel
theorem dX5_back_72 : decode cX5_back 72 = .ok (.aload_n 0, 1) := by decide +kernel
theorem dX5_back_73 : decode cX5_back 73 = .ok (.getfield 218, 3) := by decide +kernel
theorem dX5_back_76 : decode cX5_back 76 = .ok (.ireturn, 1) := by decide +kernel
abbrev A5_back (G : GG) (Q : Int32 → MM → Prop) := AW G E0 (MZ G (qI Q)) (WY yX5_back cX5_back 2 (some .int)) RX5 cX5_back 2 (some .int) ({ frames := 2, cells := 0, slots := 0, locals := 44 } : Room) 0 0
def D5_back_c63 (Q : Int32 → MM → Prop) (M : MM) : Prop := D5_carryAll 78 (0 : Int32) M (fun (M8 : MM) => Q (M8 62 32) M8)
def D5_back_c31 (Q : Int32 → MM → Prop) : Nat → Int32 → MM → Prop
  | 0, _, _ => False
  | n + 1, x1, M => (((44 : Int32) ≤ x1 → D5_back_c63 Q M) ∧ (¬ (44 : Int32) ≤ x1 → ib 77 (((44 : Int32) * (M 62 32)) + x1) ∧ ib 78 x1 ∧ (fun M5 : MM => (fun v6 : Int32 => D5_back_c31 Q n v6 M5) (x1 + (1 : Int32))) (up M 78 (ix x1) (M 77 (ix (((44 : Int32) * (M 62 32)) + x1))))))
def D5_back (M : MM) (Q : Int32 → MM → Prop) : Prop := (fun M1 : MM => (((M1 62 32) ≠ 0 → (fun M2 : MM => D5_back_c31 Q FU (0 : Int32) M2) (up M1 62 32 ((M1 62 32) - (1 : Int32)))) ∧ ((M1 62 32) = 0 → D5_refuse (-3 : Int32) M1 (fun (r3 : Int32) (M4 : MM) => Q r3 M4)))) (up M 62 9 (0 : Int32))
set_option maxHeartbeats 4000000 in
set_option maxRecDepth 100000 in
theorem s5_back_c63 {G : GG} {Q : Int32 → MM → Prop} : ∀  (M : MM), D5_back_c63 Q M → A5_back G Q 63 [(0, .ref (gA G 62))] [] M := by
  intro  M h
  unfold D5_back_c63 at h
  refine a_aload_n dX5_back_63 0 rfl ?_
  refine a_aload_n dX5_back_64 0 rfl ?_
  refine a_get3 dX5_back_65 31 (by decide) (tbc _ kF_RX5_55) (fun w h => tbc _ (uW3 w h)) rfl ob_62 rfl ?_
  refine a_iconst (v := 0) dX5_back_68 (by decide) ?_
  refine a_callVv (n := 2) [.ref _, .int _] (C := RX5) (ci := 3) (qc := (RX5, TX5, 40)) (fsF := fl3 G _) ob_62.1 (fun _ => en3 ob_62.2) rfl rfl dX5_back_69 (s5_carryAll h) (gV tbc kM_RX5_233_X5_carryAll kI_X5_carryAll kS_X5_carryAll kN_RX5 kC_X5_carryAll) rfl (by decide +kernel) ⟨Nat.le_of_ble_eq_true rfl, Nat.le_of_ble_eq_true rfl⟩ rfl rfl (Nat.le_of_ble_eq_true rfl) ⟨Nat.le_refl 0, Nat.le_refl 0⟩ (fun M h => ?_)
  refine a_aload_n dX5_back_72 0 rfl ?_
  refine a_get3 dX5_back_73 32 (by decide) (tbc _ kF_RX5_218) (fun w h => tbc _ (uW3 w h)) rfl ob_62 rfl ?_
  exact a_iret dX5_back_76 ⟨_, rfl, h⟩
set_option maxHeartbeats 4000000 in
set_option maxRecDepth 100000 in
theorem s5_back_c31 {G : GG} {Q : Int32 → MM → Prop} : ∀ (n : Nat) (x1 : Int32) (M : MM), D5_back_c31 Q n x1 M → A5_back G Q 31 [(0, .ref (gA G 62)), (1, .int x1)] [] M := by
  intro n
  induction n with
  | zero => intro x1 M h; exact h.elim
  | succ n ih =>
    intro x1 M h
    unfold D5_back_c31 at h
    refine a_iload_n dX5_back_31 1 rfl ?_
    refine a_bipush (v := 44) dX5_back_32 (by decide) ?_
    refine a_icmp_ge (tgt := 63) dX5_back_34 (by decide) (fun c => ?_) (fun c => ?_)
    · have h := h.1 c
      refine a_sub [0] rfl ?_
      exact s5_back_c63 _ h
    · have h := h.2 c
      refine a_aload_n dX5_back_37 0 rfl ?_
      refine a_get3 dX5_back_38 31 (by decide) (tbc _ kF_RX5_55) (fun w h => tbc _ (uW3 w h)) rfl ob_62 rfl ?_
      refine a_iload_n dX5_back_41 1 rfl ?_
      refine a_aload_n dX5_back_42 0 rfl ?_
      refine a_get3 dX5_back_43 30 (by decide) (tbc _ kF_RX5_52) (fun w h => tbc _ (uW3 w h)) rfl ob_62 rfl ?_
      refine a_bipush (v := 44) dX5_back_46 (by decide) ?_
      refine a_aload_n dX5_back_48 0 rfl ?_
      refine a_get3 dX5_back_49 32 (by decide) (tbc _ kF_RX5_218) (fun w h => tbc _ (uW3 w h)) rfl ob_62 rfl ?_
      refine a_imul dX5_back_52 ?_
      refine a_iload_n dX5_back_53 1 rfl ?_
      refine a_iadd dX5_back_54 ?_
      refine a_iald dX5_back_55 h.1 ?_
      have h := h.2
      refine a_iast dX5_back_56 h.1 ?_
      have h := h.2
      refine a_iinc (L' := [(1, .int _), (0, .ref _)]) dX5_back_57 1 rfl (show _ + Int32.ofInt (1 : Int) = _ + (1 : Int32) from rfl) (by decide) rfl ?_
      refine a_goto (tgt := 31) dX5_back_60 (by decide) ?_
      refine a_sub [1, 0] rfl ?_
      exact ih _ _ h
set_option maxHeartbeats 4000000 in
set_option maxRecDepth 100000 in
theorem s5_back {G : GG} {M : MM} {Q : Int32 → MM → Prop} (h : D5_back M Q) : CM G yX5_back (WY yX5_back cX5_back 2 (some .int)) 2 44 [.ref (gA G 62)] M (qI Q) := by
  refine CM.of (cc := cX5_back) (nL := 2) (ret := (some .int)) (own := RX5) (by decide +kernel) rfl rfl (Nat.le_of_ble_eq_true rfl) ?_
  show A5_back G Q 0 [(0, .ref (gA G 62))] [] M
  unfold D5_back at h
  refine a_aload_n dX5_back_0 0 rfl ?_
  refine a_iconst (v := 0) dX5_back_1 (by decide) ?_
  refine a_put3 dX5_back_2 9 (by decide) (tbc _ kF_RX5_73) (fun w h => tbc _ (uW3 w h)) rfl rfl rfl rfl ob_62 fs3_9 ?_
  refine a_aload_n dX5_back_5 0 rfl ?_
  refine a_get3 dX5_back_6 32 (by decide) (tbc _ kF_RX5_218) (fun w h => tbc _ (uW3 w h)) rfl ob_62 rfl ?_
  refine a_if_ne (tgt := 19) dX5_back_9 (by decide) (fun c => ?_) (fun c => ?_)
  · have h := h.1 c
    refine a_aload_n dX5_back_19 0 rfl ?_
    refine a_dup dX5_back_20 rfl ?_
    refine a_get3 dX5_back_21 32 (by decide) (tbc _ kF_RX5_218) (fun w h => tbc _ (uW3 w h)) rfl ob_62 rfl ?_
    refine a_iconst (v := 1) dX5_back_24 (by decide) ?_
    refine a_isub dX5_back_25 ?_
    refine a_put3 dX5_back_26 32 (by decide) (tbc _ kF_RX5_218) (fun w h => tbc _ (uW3 w h)) rfl rfl rfl rfl ob_62 fs3_32 ?_
    refine a_iconst (v := 0) dX5_back_29 (by decide) ?_
    refine a_istore_n (i := 1) (L' := [(1, .int _), (0, .ref _)]) dX5_back_30 rfl (by decide) rfl ?_
    refine a_sub [1, 0] rfl ?_
    exact s5_back_c31 _ _ _ h
  · have h := h.2 c
    refine a_aload_n dX5_back_12 0 rfl ?_
    refine a_bipush (v := -3) dX5_back_13 (by decide) ?_
    refine a_callVi (n := 1) [.int _] (C := RX5) (ci := 3) (qc := (RX5, TX5, 40)) (fsF := fl3 G _) ob_62.1 (fun _ => en3 ob_62.2) rfl rfl dX5_back_15 (s5_refuse h) (gV tbc kM_RX5_149_X5_refuse kI_X5_refuse kS_X5_refuse kN_RX5 kC_X5_refuse) rfl (by decide +kernel) ⟨Nat.le_of_ble_eq_true rfl, Nat.le_of_ble_eq_true rfl⟩ rfl rfl (Nat.le_of_ble_eq_true rfl) ⟨Nat.le_refl 0, Nat.le_refl 0⟩ (fun r M h => ?_)
    exact a_iret dX5_back_18 ⟨_, rfl, h⟩

/-! X5_here -/
theorem dX5_here_0 : decode cX5_here 0 = .ok (.aload_n 0, 1) := by decide +kernel
theorem dX5_here_1 : decode cX5_here 1 = .ok (.getfield 155, 3) := by decide +kernel
theorem dX5_here_4 : decode cX5_here 4 = .ok (.aload_n 0, 1) := by decide +kernel
theorem dX5_here_5 : decode cX5_here 5 = .ok (.getfield 152, 3) := by decide +kernel
theorem dX5_here_8 : decode cX5_here 8 = .ok (.if_icmp .ge 15, 3) := by decide +kernel
theorem dX5_here_11 : decode cX5_here 11 = .ok (.aload_n 0, 1) := by decide +kernel
theorem dX5_here_12 : decode cX5_here 12 = .ok (.getfield 34, 3) := by decide +kernel
theorem dX5_here_15 : decode cX5_here 15 = .ok (.aload_n 0, 1) := by decide +kernel
theorem dX5_here_16 : decode cX5_here 16 = .ok (.getfield 155, 3) := by decide +kernel
theorem dX5_here_19 : decode cX5_here 19 = .ok (.iaload, 1) := by decide +kernel
theorem dX5_here_20 : decode cX5_here 20 = .ok (.goto 4, 3) := by decide +kernel
theorem dX5_here_23 : decode cX5_here 23 = .ok (.iconst (-1), 1) := by decide +kernel
theorem dX5_here_24 : decode cX5_here 24 = .ok (.ireturn, 1) := by decide +kernel
abbrev A5_here (G : GG) (Q : Int32 → MM → Prop) := AW G E0 (MZ G (qI Q)) (WY yX5_here cX5_here 1 (some .int)) RX5 cX5_here 1 (some .int) ({ frames := 0, cells := 0, slots := 0, locals := 0 } : Room) 0 0
def D5_here (M : MM) (Q : Int32 → MM → Prop) : Prop := (((M 62 17) ≤ (M 62 18) → Q (-1 : Int32) M) ∧ (¬ (M 62 17) ≤ (M 62 18) → ib 71 (M 62 18) ∧ Q (M 71 (ix (M 62 18))) M))
set_option maxHeartbeats 4000000 in
set_option maxRecDepth 100000 in
theorem s5_here {G : GG} {M : MM} {Q : Int32 → MM → Prop} (h : D5_here M Q) : CM G yX5_here (WY yX5_here cX5_here 1 (some .int)) 0 0 [.ref (gA G 62)] M (qI Q) := by
  refine CM.of (cc := cX5_here) (nL := 1) (ret := (some .int)) (own := RX5) (by decide +kernel) rfl rfl (Nat.le_of_ble_eq_true rfl) ?_
  show A5_here G Q 0 [(0, .ref (gA G 62))] [] M
  unfold D5_here at h
  refine a_aload_n dX5_here_0 0 rfl ?_
  refine a_get3 dX5_here_1 18 (by decide) (tbc _ kF_RX5_155) (fun w h => tbc _ (uW3 w h)) rfl ob_62 rfl ?_
  refine a_aload_n dX5_here_4 0 rfl ?_
  refine a_get3 dX5_here_5 17 (by decide) (tbc _ kF_RX5_152) (fun w h => tbc _ (uW3 w h)) rfl ob_62 rfl ?_
  refine a_icmp_ge (tgt := 23) dX5_here_8 (by decide) (fun c => ?_) (fun c => ?_)
  · have h := h.1 c
    refine a_iconst (v := -1) dX5_here_23 (by decide) ?_
    exact a_iret dX5_here_24 ⟨_, rfl, h⟩
  · have h := h.2 c
    refine a_aload_n dX5_here_11 0 rfl ?_
    refine a_get3 dX5_here_12 16 (by decide) (tbc _ kF_RX5_34) (fun w h => tbc _ (uW3 w h)) rfl ob_62 rfl ?_
    refine a_aload_n dX5_here_15 0 rfl ?_
    refine a_get3 dX5_here_16 18 (by decide) (tbc _ kF_RX5_155) (fun w h => tbc _ (uW3 w h)) rfl ob_62 rfl ?_
    refine a_iald dX5_here_19 h.1 ?_
    have h := h.2
    refine a_goto (tgt := 24) dX5_here_20 (by decide) ?_
    exact a_iret dX5_here_24 ⟨_, rfl, h⟩

/-! X5_isLetter -/
theorem dX5_isLetter_0 : decode cX5_isLetter 0 = .ok (.iload_n 0, 1) := by decide +kernel
theorem dX5_isLetter_1 : decode cX5_isLetter 1 = .ok (.bipush 119, 2) := by decide +kernel
theorem dX5_isLetter_3 : decode cX5_isLetter 3 = .ok (.if_icmp .eq 33, 3) := by decide +kernel
theorem dX5_isLetter_6 : decode cX5_isLetter 6 = .ok (.iload_n 0, 1) := by decide +kernel
theorem dX5_isLetter_7 : decode cX5_isLetter 7 = .ok (.bipush 114, 2) := by decide +kernel
theorem dX5_isLetter_9 : decode cX5_isLetter 9 = .ok (.if_icmp .eq 27, 3) := by decide +kernel
theorem dX5_isLetter_12 : decode cX5_isLetter 12 = .ok (.iload_n 0, 1) := by decide +kernel
theorem dX5_isLetter_13 : decode cX5_isLetter 13 = .ok (.bipush 102, 2) := by decide +kernel
theorem dX5_isLetter_15 : decode cX5_isLetter 15 = .ok (.if_icmp .eq 21, 3) := by decide +kernel
theorem dX5_isLetter_18 : decode cX5_isLetter 18 = .ok (.iload_n 0, 1) := by decide +kernel
theorem dX5_isLetter_19 : decode cX5_isLetter 19 = .ok (.bipush 120, 2) := by decide +kernel
theorem dX5_isLetter_21 : decode cX5_isLetter 21 = .ok (.if_icmp .eq 15, 3) := by decide +kernel
theorem dX5_isLetter_24 : decode cX5_isLetter 24 = .ok (.iload_n 0, 1) := by decide +kernel
theorem dX5_isLetter_25 : decode cX5_isLetter 25 = .ok (.bipush 112, 2) := by decide +kernel
theorem dX5_isLetter_27 : decode cX5_isLetter 27 = .ok (.if_icmp .eq 9, 3) := by decide +kernel
theorem dX5_isLetter_30 : decode cX5_isLetter 30 = .ok (.iload_n 0, 1) := by decide +kernel
theorem dX5_isLetter_31 : decode cX5_isLetter 31 = .ok (.bipush 104, 2) := by decide +kernel
theorem dX5_isLetter_33 : decode cX5_isLetter 33 = .ok (.if_icmp .ne 7, 3) := by decide +kernel
theorem dX5_isLetter_36 : decode cX5_isLetter 36 = .ok (.iconst 1, 1) := by decide +kernel
theorem dX5_isLetter_37 : decode cX5_isLetter 37 = .ok (.goto 4, 3) := by decide +kernel
theorem dX5_isLetter_40 : decode cX5_isLetter 40 = .ok (.iconst 0, 1) := by decide +kernel
theorem dX5_isLetter_41 : decode cX5_isLetter 41 = .ok (.ireturn, 1) := by decide +kernel
abbrev A5_isLetter (G : GG) (Q : Int32 → MM → Prop) := AW G E0 (MZ G (qI Q)) (WY yX5_isLetter cX5_isLetter 1 (some .boolean)) RX5 cX5_isLetter 1 (some .boolean) ({ frames := 0, cells := 0, slots := 0, locals := 0 } : Room) 0 0
def D5_isLetter (x0 : Int32) (M : MM) (Q : Int32 → MM → Prop) : Prop := ((x0 = (119 : Int32) → Q (1 : Int32) M) ∧ (¬ x0 = (119 : Int32) → ((x0 = (114 : Int32) → Q (1 : Int32) M) ∧ (¬ x0 = (114 : Int32) → ((x0 = (102 : Int32) → Q (1 : Int32) M) ∧ (¬ x0 = (102 : Int32) → ((x0 = (120 : Int32) → Q (1 : Int32) M) ∧ (¬ x0 = (120 : Int32) → ((x0 = (112 : Int32) → Q (1 : Int32) M) ∧ (¬ x0 = (112 : Int32) → ((x0 ≠ (104 : Int32) → Q (0 : Int32) M) ∧ (x0 = (104 : Int32) → Q (1 : Int32) M))))))))))))
set_option maxHeartbeats 4000000 in
set_option maxRecDepth 100000 in
theorem s5_isLetter {G : GG} {x0 : Int32} {M : MM} {Q : Int32 → MM → Prop} (h : D5_isLetter x0 M Q) : CM G yX5_isLetter (WY yX5_isLetter cX5_isLetter 1 (some .boolean)) 0 0 [.int x0] M (qI Q) := by
  refine CM.of (cc := cX5_isLetter) (nL := 1) (ret := (some .boolean)) (own := RX5) (by decide +kernel) rfl rfl (Nat.le_of_ble_eq_true rfl) ?_
  show A5_isLetter G Q 0 [(0, .int x0)] [] M
  unfold D5_isLetter at h
  refine a_iload_n dX5_isLetter_0 0 rfl ?_
  refine a_bipush (v := 119) dX5_isLetter_1 (by decide) ?_
  refine a_icmp_eq (tgt := 36) dX5_isLetter_3 (by decide) (fun c => ?_) (fun c => ?_)
  · have h := h.1 c
    refine a_iconst (v := 1) dX5_isLetter_36 (by decide) ?_
    refine a_goto (tgt := 41) dX5_isLetter_37 (by decide) ?_
    exact a_zret dX5_isLetter_41 (Or.inr rfl) ⟨_, rfl, h⟩
  · have h := h.2 c
    refine a_iload_n dX5_isLetter_6 0 rfl ?_
    refine a_bipush (v := 114) dX5_isLetter_7 (by decide) ?_
    refine a_icmp_eq (tgt := 36) dX5_isLetter_9 (by decide) (fun c => ?_) (fun c => ?_)
    · have h := h.1 c
      refine a_iconst (v := 1) dX5_isLetter_36 (by decide) ?_
      refine a_goto (tgt := 41) dX5_isLetter_37 (by decide) ?_
      exact a_zret dX5_isLetter_41 (Or.inr rfl) ⟨_, rfl, h⟩
    · have h := h.2 c
      refine a_iload_n dX5_isLetter_12 0 rfl ?_
      refine a_bipush (v := 102) dX5_isLetter_13 (by decide) ?_
      refine a_icmp_eq (tgt := 36) dX5_isLetter_15 (by decide) (fun c => ?_) (fun c => ?_)
      · have h := h.1 c
        refine a_iconst (v := 1) dX5_isLetter_36 (by decide) ?_
        refine a_goto (tgt := 41) dX5_isLetter_37 (by decide) ?_
        exact a_zret dX5_isLetter_41 (Or.inr rfl) ⟨_, rfl, h⟩
      · have h := h.2 c
        refine a_iload_n dX5_isLetter_18 0 rfl ?_
        refine a_bipush (v := 120) dX5_isLetter_19 (by decide) ?_
        refine a_icmp_eq (tgt := 36) dX5_isLetter_21 (by decide) (fun c => ?_) (fun c => ?_)
        · have h := h.1 c
          refine a_iconst (v := 1) dX5_isLetter_36 (by decide) ?_
          refine a_goto (tgt := 41) dX5_isLetter_37 (by decide) ?_
          exact a_zret dX5_isLetter_41 (Or.inr rfl) ⟨_, rfl, h⟩
        · have h := h.2 c
          refine a_iload_n dX5_isLetter_24 0 rfl ?_
          refine a_bipush (v := 112) dX5_isLetter_25 (by decide) ?_
          refine a_icmp_eq (tgt := 36) dX5_isLetter_27 (by decide) (fun c => ?_) (fun c => ?_)
          · have h := h.1 c
            refine a_iconst (v := 1) dX5_isLetter_36 (by decide) ?_
            refine a_goto (tgt := 41) dX5_isLetter_37 (by decide) ?_
            exact a_zret dX5_isLetter_41 (Or.inr rfl) ⟨_, rfl, h⟩
          · have h := h.2 c
            refine a_iload_n dX5_isLetter_30 0 rfl ?_
            refine a_bipush (v := 104) dX5_isLetter_31 (by decide) ?_
            refine a_icmp_ne (tgt := 40) dX5_isLetter_33 (by decide) (fun c => ?_) (fun c => ?_)
            · have h := h.1 c
              refine a_iconst (v := 0) dX5_isLetter_40 (by decide) ?_
              exact a_zret dX5_isLetter_41 (Or.inl rfl) ⟨_, rfl, h⟩
            · have h := h.2 c
              refine a_iconst (v := 1) dX5_isLetter_36 (by decide) ?_
              refine a_goto (tgt := 41) dX5_isLetter_37 (by decide) ?_
              exact a_zret dX5_isLetter_41 (Or.inr rfl) ⟨_, rfl, h⟩

/-! X5_readDigits -/
theorem dX5_readDigits_0 : decode cX5_readDigits 0 = .ok (.iconst 0, 1) := by decide +kernel
theorem dX5_readDigits_1 : decode cX5_readDigits 1 = .ok (.istore_n 2, 1) := by decide +kernel
theorem dX5_readDigits_2 : decode cX5_readDigits 2 = .ok (.iconst 0, 1) := by decide +kernel
theorem dX5_readDigits_3 : decode cX5_readDigits 3 = .ok (.istore_n 3, 1) := by decide +kernel
theorem dX5_readDigits_4 : decode cX5_readDigits 4 = .ok (.iload_n 3, 1) := by decide +kernel
theorem dX5_readDigits_5 : decode cX5_readDigits 5 = .ok (.iload_n 1, 1) := by decide +kernel
theorem dX5_readDigits_6 : decode cX5_readDigits 6 = .ok (.if_icmp .ge 92, 3) := by decide +kernel
theorem dX5_readDigits_9 : decode cX5_readDigits 9 = .ok (.aload_n 0, 1) := by decide +kernel
theorem dX5_readDigits_10 : decode cX5_readDigits 10 = .ok (.aload_n 0, 1) := by decide +kernel
theorem dX5_readDigits_11 : decode cX5_readDigits 11 = .ok (.getfield 158, 3) := by decide +kernel
theorem dX5_readDigits_14 : decode cX5_readDigits 14 = .ok (.ifCond .ne 20, 3) := by decide +kernel
theorem dX5_readDigits_17 : decode cX5_readDigits 17 = .ok (.aload_n 0, 1) := by decide +kernel
theorem dX5_readDigits_18 : decode cX5_readDigits 18 = .ok (.invokevirtual 162, 3) := by decide +kernel
theorem dX5_readDigits_21 : decode cX5_readDigits 21 = .ok (.i2l, 1) := by decide +kernel
theorem dX5_readDigits_22 : decode cX5_readDigits 22 = .ok (.ldc2_w 166, 3) := by decide +kernel
theorem dX5_readDigits_25 : decode cX5_readDigits 25 = .ok (.ldc2_w 168, 3) := by decide +kernel
theorem dX5_readDigits_28 : decode cX5_readDigits 28 = .ok (.invokestatic 80, 3) := by decide +kernel
theorem dX5_readDigits_31 : decode cX5_readDigits 31 = .ok (.ifCond .ne 7, 3) := by decide +kernel
theorem dX5_readDigits_34 : decode cX5_readDigits 34 = .ok (.iconst 1, 1) := by decide +kernel
theorem dX5_readDigits_35 : decode cX5_readDigits 35 = .ok (.goto 4, 3) := by decide +kernel
theorem dX5_readDigits_38 : decode cX5_readDigits 38 = .ok (.iconst 0, 1) := by decide +kernel
theorem dX5_readDigits_39 : decode cX5_readDigits 39 = .ok (.putfield 158, 3) := by decide +kernel
theorem dX5_readDigits_42 : decode cX5_readDigits 42 = .ok (.aload_n 0, 1) := by decide +kernel
theorem dX5_readDigits_43 : decode cX5_readDigits 43 = .ok (.getfield 158, 3) := by decide +kernel
theorem dX5_readDigits_46 : decode cX5_readDigits 46 = .ok (.ifCond .eq 7, 3) := by decide +kernel
theorem dX5_readDigits_49 : decode cX5_readDigits 49 = .ok (.iconst 0, 1) := by decide +kernel
theorem dX5_readDigits_50 : decode cX5_readDigits 50 = .ok (.goto 20, 3) := by decide +kernel
theorem dX5_readDigits_53 : decode cX5_readDigits 53 = .ok (.bipush 10, 2) := by decide +kernel
theorem dX5_readDigits_55 : decode cX5_readDigits 55 = .ok (.iload_n 2, 1) := by decide +kernel
theorem dX5_readDigits_56 : decode cX5_readDigits 56 = .ok (.imul, 1) := by decide +kernel
theorem dX5_readDigits_57 : decode cX5_readDigits 57 = .ok (.aload_n 0, 1) := by decide +kernel
theorem dX5_readDigits_58 : decode cX5_readDigits 58 = .ok (.getfield 34, 3) := by decide +kernel
theorem dX5_readDigits_61 : decode cX5_readDigits 61 = .ok (.aload_n 0, 1) := by decide +kernel
theorem dX5_readDigits_62 : decode cX5_readDigits 62 = .ok (.getfield 155, 3) := by decide +kernel
theorem dX5_readDigits_65 : decode cX5_readDigits 65 = .ok (.iaload, 1) := by decide +kernel
theorem dX5_readDigits_66 : decode cX5_readDigits 66 = .ok (.iadd, 1) := by decide +kernel
theorem dX5_readDigits_67 : decode cX5_readDigits 67 = .ok (.bipush 48, 2) := by decide +kernel
theorem dX5_readDigits_69 : decode cX5_readDigits 69 = .ok (.isub, 1) := by decide +kernel
theorem dX5_readDigits_70 : decode cX5_readDigits 70 = .ok (.istore_n 2, 1) := by decide +kernel
theorem dX5_readDigits_71 : decode cX5_readDigits 71 = .ok (.aload_n 0, 1) := by decide +kernel
theorem dX5_readDigits_72 : decode cX5_readDigits 72 = .ok (.dup, 1) := by decide +kernel
theorem dX5_readDigits_73 : decode cX5_readDigits 73 = .ok (.getfield 155, 3) := by decide +kernel
theorem dX5_readDigits_76 : decode cX5_readDigits 76 = .ok (.aload_n 0, 1) := by decide +kernel
theorem dX5_readDigits_77 : decode cX5_readDigits 77 = .ok (.getfield 158, 3) := by decide +kernel
theorem dX5_readDigits_80 : decode cX5_readDigits 80 = .ok (.ifCond .eq 7, 3) := by decide +kernel
theorem dX5_readDigits_83 : decode cX5_readDigits 83 = .ok (.iconst 0, 1) := by decide +kernel
theorem dX5_readDigits_84 : decode cX5_readDigits 84 = .ok (.goto 4, 3) := by decide +kernel
theorem dX5_readDigits_87 : decode cX5_readDigits 87 = .ok (.iconst 1, 1) := by decide +kernel
theorem dX5_readDigits_88 : decode cX5_readDigits 88 = .ok (.iadd, 1) := by decide +kernel
theorem dX5_readDigits_89 : decode cX5_readDigits 89 = .ok (.putfield 155, 3) := by decide +kernel
theorem dX5_readDigits_92 : decode cX5_readDigits 92 = .ok (.iinc 3 1, 3) := by decide +kernel
theorem dX5_readDigits_95 : decode cX5_readDigits 95 = .ok (.goto (-91), 3) := by decide +kernel
theorem dX5_readDigits_98 : decode cX5_readDigits 98 = .ok (.iload_n 2, 1) := by decide +kernel
theorem dX5_readDigits_99 : decode cX5_readDigits 99 = .ok (.ireturn, 1) := by decide +kernel
abbrev A5_readDigits (G : GG) (Q : Int32 → MM → Prop) := AW G E0 (MZ G (qI Q)) (WY yX5_readDigits cX5_readDigits 4 (some .int)) RX5 cX5_readDigits 4 (some .int) ({ frames := 1, cells := 0, slots := 0, locals := 25 } : Room) 0 0
def D5_readDigits_c88 (K4 : Int32 → Int32 → Int32 → MM → Prop) (Q : Int32 → MM → Prop) (x1 : Int32) (x2 : Int32) (x3 : Int32) (s0 : Int32) (s1 : Int32) (M : MM) : Prop := (fun M6 : MM => (fun v7 : Int32 => K4 x1 x2 v7 M6) (x3 + (1 : Int32))) (up M 62 18 (s1 + s0))
def D5_readDigits_c70 (K4 : Int32 → Int32 → Int32 → MM → Prop) (Q : Int32 → MM → Prop) (x1 : Int32) (x3 : Int32) (s0 : Int32) (M : MM) : Prop := (((M 62 19) = 0 → D5_readDigits_c88 K4 Q x1 s0 x3 (1 : Int32) (M 62 18) M) ∧ (¬ (M 62 19) = 0 → D5_readDigits_c88 K4 Q x1 s0 x3 (0 : Int32) (M 62 18) M))
def D5_readDigits_c39 (K4 : Int32 → Int32 → Int32 → MM → Prop) (Q : Int32 → MM → Prop) (x1 : Int32) (x2 : Int32) (x3 : Int32) (s0 : Int32) (M : MM) : Prop := bo s0 ∧ (fun M5 : MM => (((M5 62 19) = 0 → ib 71 (M5 62 18) ∧ D5_readDigits_c70 K4 Q x1 x3 ((((10 : Int32) * x2) + (M5 71 (ix (M5 62 18)))) - (48 : Int32)) M5) ∧ (¬ (M5 62 19) = 0 → D5_readDigits_c70 K4 Q x1 x3 (0 : Int32) M5))) (up M 62 19 s0)
def D5_readDigits_c34 (K4 : Int32 → Int32 → Int32 → MM → Prop) (Q : Int32 → MM → Prop) (x1 : Int32) (x2 : Int32) (x3 : Int32) (M : MM) : Prop := D5_readDigits_c39 K4 Q x1 x2 x3 (1 : Int32) M
def D5_readDigits_c4 (Q : Int32 → MM → Prop) : Nat → Int32 → Int32 → Int32 → MM → Prop
  | 0, _, _, _, _ => False
  | n + 1, x1, x2, x3, M => ((x1 ≤ x3 → Q x2 M) ∧ (¬ x1 ≤ x3 → (((M 62 19) ≠ 0 → D5_readDigits_c34 (D5_readDigits_c4 Q n) Q x1 x2 x3 M) ∧ ((M 62 19) = 0 → D5_here M (fun (r1 : Int32) (M2 : MM) => D5_in r1.toInt64 (48 : Int64) (57 : Int64) M2 (fun (r3 : Int32) (M4 : MM) => ((r3 ≠ 0 → D5_readDigits_c39 (D5_readDigits_c4 Q n) Q x1 x2 x3 (0 : Int32) M4) ∧ (r3 = 0 → D5_readDigits_c34 (D5_readDigits_c4 Q n) Q x1 x2 x3 M4))))))))
def D5_readDigits (x1 : Int32) (M : MM) (Q : Int32 → MM → Prop) : Prop := D5_readDigits_c4 Q FU x1 (0 : Int32) (0 : Int32) M
set_option maxHeartbeats 4000000 in
set_option maxRecDepth 100000 in
theorem s5_readDigits_c88 {G : GG} {K4 : Int32 → Int32 → Int32 → MM → Prop} {Q : Int32 → MM → Prop} (hK4 : ∀ (x1 : Int32) (x2 : Int32) (x3 : Int32) (M : MM), K4 x1 x2 x3 M → A5_readDigits G Q 4 [(0, .ref (gA G 62)), (1, .int x1), (2, .int x2), (3, .int x3)] [] M) : ∀ (x1 : Int32) (x2 : Int32) (x3 : Int32) (s0 : Int32) (s1 : Int32) (M : MM), D5_readDigits_c88 K4 Q x1 x2 x3 s0 s1 M → A5_readDigits G Q 88 [(0, .ref (gA G 62)), (1, .int x1), (2, .int x2), (3, .int x3)] [.int s0, .int s1, .ref (gA G 62)] M := by
  intro x1 x2 x3 s0 s1 M h
  unfold D5_readDigits_c88 at h
  refine a_iadd dX5_readDigits_88 ?_
  refine a_put3 dX5_readDigits_89 18 (by decide) (tbc _ kF_RX5_155) (fun w h => tbc _ (uW3 w h)) rfl rfl rfl rfl ob_62 fs3_18 ?_
  refine a_iinc (L' := [(3, .int _), (0, .ref _), (1, .int _), (2, .int _)]) dX5_readDigits_92 3 rfl (show _ + Int32.ofInt (1 : Int) = _ + (1 : Int32) from rfl) (by decide) rfl ?_
  refine a_goto (tgt := 4) dX5_readDigits_95 (by decide) ?_
  refine a_sub [1, 2, 3, 0] rfl ?_
  exact hK4 _ _ _ _ h
set_option maxHeartbeats 4000000 in
set_option maxRecDepth 100000 in
theorem s5_readDigits_c70 {G : GG} {K4 : Int32 → Int32 → Int32 → MM → Prop} {Q : Int32 → MM → Prop} (hK4 : ∀ (x1 : Int32) (x2 : Int32) (x3 : Int32) (M : MM), K4 x1 x2 x3 M → A5_readDigits G Q 4 [(0, .ref (gA G 62)), (1, .int x1), (2, .int x2), (3, .int x3)] [] M) : ∀ (x1 : Int32) (x3 : Int32) (s0 : Int32) (M : MM), D5_readDigits_c70 K4 Q x1 x3 s0 M → A5_readDigits G Q 70 [(0, .ref (gA G 62)), (1, .int x1), (3, .int x3)] [.int s0] M := by
  intro x1 x3 s0 M h
  unfold D5_readDigits_c70 at h
  refine a_istore_n (i := 2) (L' := [(2, .int _), (0, .ref _), (1, .int _), (3, .int _)]) dX5_readDigits_70 rfl (by decide) rfl ?_
  refine a_aload_n dX5_readDigits_71 1 rfl ?_
  refine a_dup dX5_readDigits_72 rfl ?_
  refine a_get3 dX5_readDigits_73 18 (by decide) (tbc _ kF_RX5_155) (fun w h => tbc _ (uW3 w h)) rfl ob_62 rfl ?_
  refine a_aload_n dX5_readDigits_76 1 rfl ?_
  refine a_get3 dX5_readDigits_77 19 (by decide) (tbc _ kF_RX5_158) (fun w h => tbc _ (uW3 w h)) rfl ob_62 rfl ?_
  refine a_if_eq (tgt := 87) dX5_readDigits_80 (by decide) (fun c => ?_) (fun c => ?_)
  · have h := h.1 c
    refine a_iconst (v := 1) dX5_readDigits_87 (by decide) ?_
    refine a_sub [1, 2, 0, 3] rfl ?_
    exact s5_readDigits_c88 hK4 _ _ _ _ _ _ h
  · have h := h.2 c
    refine a_iconst (v := 0) dX5_readDigits_83 (by decide) ?_
    refine a_goto (tgt := 88) dX5_readDigits_84 (by decide) ?_
    refine a_sub [1, 2, 0, 3] rfl ?_
    exact s5_readDigits_c88 hK4 _ _ _ _ _ _ h
set_option maxHeartbeats 4000000 in
set_option maxRecDepth 100000 in
theorem s5_readDigits_c39 {G : GG} {K4 : Int32 → Int32 → Int32 → MM → Prop} {Q : Int32 → MM → Prop} (hK4 : ∀ (x1 : Int32) (x2 : Int32) (x3 : Int32) (M : MM), K4 x1 x2 x3 M → A5_readDigits G Q 4 [(0, .ref (gA G 62)), (1, .int x1), (2, .int x2), (3, .int x3)] [] M) : ∀ (x1 : Int32) (x2 : Int32) (x3 : Int32) (s0 : Int32) (M : MM), D5_readDigits_c39 K4 Q x1 x2 x3 s0 M → A5_readDigits G Q 39 [(0, .ref (gA G 62)), (1, .int x1), (2, .int x2), (3, .int x3)] [.int s0, .ref (gA G 62)] M := by
  intro x1 x2 x3 s0 M h
  unfold D5_readDigits_c39 at h
  refine a_put3 dX5_readDigits_39 19 (by decide) (tbc _ kF_RX5_158) (fun w h => tbc _ (uW3 w h)) rfl rfl (bo_n h.1) (bo_f h.1) ob_62 fs3_19 ?_
  have h := h.2
  refine a_aload_n dX5_readDigits_42 0 rfl ?_
  refine a_get3 dX5_readDigits_43 19 (by decide) (tbc _ kF_RX5_158) (fun w h => tbc _ (uW3 w h)) rfl ob_62 rfl ?_
  refine a_if_eq (tgt := 53) dX5_readDigits_46 (by decide) (fun c => ?_) (fun c => ?_)
  · have h := h.1 c
    refine a_bipush (v := 10) dX5_readDigits_53 (by decide) ?_
    refine a_iload_n dX5_readDigits_55 2 rfl ?_
    refine a_imul dX5_readDigits_56 ?_
    refine a_aload_n dX5_readDigits_57 0 rfl ?_
    refine a_get3 dX5_readDigits_58 16 (by decide) (tbc _ kF_RX5_34) (fun w h => tbc _ (uW3 w h)) rfl ob_62 rfl ?_
    refine a_aload_n dX5_readDigits_61 0 rfl ?_
    refine a_get3 dX5_readDigits_62 18 (by decide) (tbc _ kF_RX5_155) (fun w h => tbc _ (uW3 w h)) rfl ob_62 rfl ?_
    refine a_iald dX5_readDigits_65 h.1 ?_
    have h := h.2
    refine a_iadd dX5_readDigits_66 ?_
    refine a_bipush (v := 48) dX5_readDigits_67 (by decide) ?_
    refine a_isub dX5_readDigits_69 ?_
    refine a_sub [0, 1, 3] rfl ?_
    exact s5_readDigits_c70 hK4 _ _ _ _ h
  · have h := h.2 c
    refine a_iconst (v := 0) dX5_readDigits_49 (by decide) ?_
    refine a_goto (tgt := 70) dX5_readDigits_50 (by decide) ?_
    refine a_sub [0, 1, 3] rfl ?_
    exact s5_readDigits_c70 hK4 _ _ _ _ h
set_option maxHeartbeats 4000000 in
set_option maxRecDepth 100000 in
theorem s5_readDigits_c34 {G : GG} {K4 : Int32 → Int32 → Int32 → MM → Prop} {Q : Int32 → MM → Prop} (hK4 : ∀ (x1 : Int32) (x2 : Int32) (x3 : Int32) (M : MM), K4 x1 x2 x3 M → A5_readDigits G Q 4 [(0, .ref (gA G 62)), (1, .int x1), (2, .int x2), (3, .int x3)] [] M) : ∀ (x1 : Int32) (x2 : Int32) (x3 : Int32) (M : MM), D5_readDigits_c34 K4 Q x1 x2 x3 M → A5_readDigits G Q 34 [(0, .ref (gA G 62)), (1, .int x1), (2, .int x2), (3, .int x3)] [.ref (gA G 62)] M := by
  intro x1 x2 x3 M h
  unfold D5_readDigits_c34 at h
  refine a_iconst (v := 1) dX5_readDigits_34 (by decide) ?_
  refine a_goto (tgt := 39) dX5_readDigits_35 (by decide) ?_
  refine a_sub [0, 1, 2, 3] rfl ?_
  exact s5_readDigits_c39 hK4 _ _ _ _ _ h
set_option maxHeartbeats 4000000 in
set_option maxRecDepth 100000 in
theorem s5_readDigits_c4 {G : GG} {Q : Int32 → MM → Prop} : ∀ (n : Nat) (x1 : Int32) (x2 : Int32) (x3 : Int32) (M : MM), D5_readDigits_c4 Q n x1 x2 x3 M → A5_readDigits G Q 4 [(0, .ref (gA G 62)), (1, .int x1), (2, .int x2), (3, .int x3)] [] M := by
  intro n
  induction n with
  | zero => intro x1 x2 x3 M h; exact h.elim
  | succ n ih =>
    intro x1 x2 x3 M h
    unfold D5_readDigits_c4 at h
    refine a_iload_n dX5_readDigits_4 3 rfl ?_
    refine a_iload_n dX5_readDigits_5 1 rfl ?_
    refine a_icmp_ge (tgt := 98) dX5_readDigits_6 (by decide) (fun c => ?_) (fun c => ?_)
    · have h := h.1 c
      refine a_iload_n dX5_readDigits_98 2 rfl ?_
      exact a_iret dX5_readDigits_99 ⟨_, rfl, h⟩
    · have h := h.2 c
      refine a_aload_n dX5_readDigits_9 0 rfl ?_
      refine a_aload_n dX5_readDigits_10 0 rfl ?_
      refine a_get3 dX5_readDigits_11 19 (by decide) (tbc _ kF_RX5_158) (fun w h => tbc _ (uW3 w h)) rfl ob_62 rfl ?_
      refine a_if_ne (tgt := 34) dX5_readDigits_14 (by decide) (fun c => ?_) (fun c => ?_)
      · have h := h.1 c
        refine a_sub [0, 1, 2, 3] rfl ?_
        exact s5_readDigits_c34 ih _ _ _ _ h
      · have h := h.2 c
        refine a_aload_n dX5_readDigits_17 0 rfl ?_
        refine a_callVi (n := 0) [] (C := RX5) (ci := 3) (qc := (RX5, TX5, 40)) (fsF := fl3 G _) ob_62.1 (fun _ => en3 ob_62.2) rfl rfl dX5_readDigits_18 (s5_here h) (gV tbc kM_RX5_162_X5_here kI_X5_here kS_X5_here kN_RX5 kC_X5_here) rfl (by decide +kernel) ⟨Nat.le_of_ble_eq_true rfl, Nat.le_of_ble_eq_true rfl⟩ rfl rfl (Nat.le_of_ble_eq_true rfl) ⟨Nat.le_refl 0, Nat.le_refl 0⟩ (fun r M h => ?_)
        refine a_i2l dX5_readDigits_21 ?_
        refine a_ldc2 dX5_readDigits_22 (tbc _ kL_RX5_166) ?_
        refine a_ldc2 dX5_readDigits_25 (tbc _ kL_RX5_168) ?_
        refine a_callSi (n := 3) [.long _, .long _, .long _] dX5_readDigits_28 (s5_in h) (gS tbc kM_RX5_80_X5_in kT_X5_in kN_RX5 kC_X5_in) rfl (by decide +kernel) ⟨Nat.le_of_ble_eq_true rfl, Nat.le_of_ble_eq_true rfl⟩ rfl rfl (Nat.le_of_ble_eq_true rfl) ⟨Nat.le_refl 0, Nat.le_refl 0⟩ (fun r M h => ?_)
        refine a_if_ne (tgt := 38) dX5_readDigits_31 (by decide) (fun c => ?_) (fun c => ?_)
        · have h := h.1 c
          refine a_iconst (v := 0) dX5_readDigits_38 (by decide) ?_
          refine a_sub [0, 1, 2, 3] rfl ?_
          exact s5_readDigits_c39 ih _ _ _ _ _ h
        · have h := h.2 c
          refine a_sub [0, 1, 2, 3] rfl ?_
          exact s5_readDigits_c34 ih _ _ _ _ h
set_option maxHeartbeats 4000000 in
set_option maxRecDepth 100000 in
theorem s5_readDigits {G : GG} {x1 : Int32} {M : MM} {Q : Int32 → MM → Prop} (h : D5_readDigits x1 M Q) : CM G yX5_readDigits (WY yX5_readDigits cX5_readDigits 4 (some .int)) 1 25 [.ref (gA G 62), .int x1] M (qI Q) := by
  refine CM.of (cc := cX5_readDigits) (nL := 4) (ret := (some .int)) (own := RX5) (by decide +kernel) rfl rfl (Nat.le_of_ble_eq_true rfl) ?_
  show A5_readDigits G Q 0 [(0, .ref (gA G 62)), (1, .int x1)] [] M
  unfold D5_readDigits at h
  refine a_iconst (v := 0) dX5_readDigits_0 (by decide) ?_
  refine a_istore_n (i := 2) (L' := [(2, .int _), (0, .ref _), (1, .int _)]) dX5_readDigits_1 rfl (by decide) rfl ?_
  refine a_iconst (v := 0) dX5_readDigits_2 (by decide) ?_
  refine a_istore_n (i := 3) (L' := [(3, .int _), (2, .int _), (0, .ref _), (1, .int _)]) dX5_readDigits_3 rfl (by decide) rfl ?_
  refine a_sub [2, 3, 1, 0] rfl ?_
  exact s5_readDigits_c4 _ _ _ _ _ h

/-! X5_readNumbers -/
theorem dX5_readNumbers_0 : decode cX5_readNumbers 0 = .ok (.aload_n 0, 1) := by decide +kernel
theorem dX5_readNumbers_1 : decode cX5_readNumbers 1 = .ok (.getfield 43, 3) := by decide +kernel
theorem dX5_readNumbers_4 : decode cX5_readNumbers 4 = .ok (.iload_n 2, 1) := by decide +kernel
theorem dX5_readNumbers_5 : decode cX5_readNumbers 5 = .ok (.aload_n 0, 1) := by decide +kernel
theorem dX5_readNumbers_6 : decode cX5_readNumbers 6 = .ok (.iload_n 1, 1) := by decide +kernel
theorem dX5_readNumbers_7 : decode cX5_readNumbers 7 = .ok (.bipush 104, 2) := by decide +kernel
theorem dX5_readNumbers_9 : decode cX5_readNumbers 9 = .ok (.if_icmp .ne 7, 3) := by decide +kernel
theorem dX5_readNumbers_12 : decode cX5_readNumbers 12 = .ok (.iconst 2, 1) := by decide +kernel
theorem dX5_readNumbers_13 : decode cX5_readNumbers 13 = .ok (.goto 14, 3) := by decide +kernel
theorem dX5_readNumbers_16 : decode cX5_readNumbers 16 = .ok (.iload_n 1, 1) := by decide +kernel
theorem dX5_readNumbers_17 : decode cX5_readNumbers 17 = .ok (.bipush 112, 2) := by decide +kernel
theorem dX5_readNumbers_19 : decode cX5_readNumbers 19 = .ok (.if_icmp .ne 7, 3) := by decide +kernel
theorem dX5_readNumbers_22 : decode cX5_readNumbers 22 = .ok (.iconst 0, 1) := by decide +kernel
theorem dX5_readNumbers_23 : decode cX5_readNumbers 23 = .ok (.goto 4, 3) := by decide +kernel
theorem dX5_readNumbers_26 : decode cX5_readNumbers 26 = .ok (.iconst 1, 1) := by decide +kernel
theorem dX5_readNumbers_27 : decode cX5_readNumbers 27 = .ok (.invokevirtual 170, 3) := by decide +kernel
theorem dX5_readNumbers_30 : decode cX5_readNumbers 30 = .ok (.iastore, 1) := by decide +kernel
theorem dX5_readNumbers_31 : decode cX5_readNumbers 31 = .ok (.iload_n 1, 1) := by decide +kernel
theorem dX5_readNumbers_32 : decode cX5_readNumbers 32 = .ok (.bipush 119, 2) := by decide +kernel
theorem dX5_readNumbers_34 : decode cX5_readNumbers 34 = .ok (.if_icmp .ne 32, 3) := by decide +kernel
theorem dX5_readNumbers_37 : decode cX5_readNumbers 37 = .ok (.aload_n 0, 1) := by decide +kernel
theorem dX5_readNumbers_38 : decode cX5_readNumbers 38 = .ok (.getfield 43, 3) := by decide +kernel
theorem dX5_readNumbers_41 : decode cX5_readNumbers 41 = .ok (.iload_n 2, 1) := by decide +kernel
theorem dX5_readNumbers_42 : decode cX5_readNumbers 42 = .ok (.iconst 1, 1) := by decide +kernel
theorem dX5_readNumbers_43 : decode cX5_readNumbers 43 = .ok (.iadd, 1) := by decide +kernel
theorem dX5_readNumbers_44 : decode cX5_readNumbers 44 = .ok (.aload_n 0, 1) := by decide +kernel
theorem dX5_readNumbers_45 : decode cX5_readNumbers 45 = .ok (.iconst 1, 1) := by decide +kernel
theorem dX5_readNumbers_46 : decode cX5_readNumbers 46 = .ok (.invokevirtual 170, 3) := by decide +kernel
theorem dX5_readNumbers_49 : decode cX5_readNumbers 49 = .ok (.iastore, 1) := by decide +kernel
theorem dX5_readNumbers_50 : decode cX5_readNumbers 50 = .ok (.aload_n 0, 1) := by decide +kernel
theorem dX5_readNumbers_51 : decode cX5_readNumbers 51 = .ok (.getfield 43, 3) := by decide +kernel
theorem dX5_readNumbers_54 : decode cX5_readNumbers 54 = .ok (.iload_n 2, 1) := by decide +kernel
theorem dX5_readNumbers_55 : decode cX5_readNumbers 55 = .ok (.iconst 2, 1) := by decide +kernel
theorem dX5_readNumbers_56 : decode cX5_readNumbers 56 = .ok (.iadd, 1) := by decide +kernel
theorem dX5_readNumbers_57 : decode cX5_readNumbers 57 = .ok (.aload_n 0, 1) := by decide +kernel
theorem dX5_readNumbers_58 : decode cX5_readNumbers 58 = .ok (.iconst 2, 1) := by decide +kernel
theorem dX5_readNumbers_59 : decode cX5_readNumbers 59 = .ok (.invokevirtual 170, 3) := by decide +kernel
theorem dX5_readNumbers_62 : decode cX5_readNumbers 62 = .ok (.iastore, 1) := by decide +kernel
theorem dX5_readNumbers_63 : decode cX5_readNumbers 63 = .ok (.goto 22, 3) := by decide +kernel
theorem dX5_readNumbers_66 : decode cX5_readNumbers 66 = .ok (.iload_n 1, 1) := by decide +kernel
theorem dX5_readNumbers_67 : decode cX5_readNumbers 67 = .ok (.bipush 120, 2) := by decide +kernel
theorem dX5_readNumbers_69 : decode cX5_readNumbers 69 = .ok (.if_icmp .ne 16, 3) := by decide +kernel
theorem dX5_readNumbers_72 : decode cX5_readNumbers 72 = .ok (.aload_n 0, 1) := by decide +kernel
theorem dX5_readNumbers_73 : decode cX5_readNumbers 73 = .ok (.getfield 43, 3) := by decide +kernel
theorem dX5_readNumbers_76 : decode cX5_readNumbers 76 = .ok (.iload_n 2, 1) := by decide +kernel
theorem dX5_readNumbers_77 : decode cX5_readNumbers 77 = .ok (.iconst 1, 1) := by decide +kernel
theorem dX5_readNumbers_78 : decode cX5_readNumbers 78 = .ok (.iadd, 1) := by decide +kernel
theorem dX5_readNumbers_79 : decode cX5_readNumbers 79 = .ok (.aload_n 0, 1) := by decide +kernel
theorem dX5_readNumbers_80 : decode cX5_readNumbers 80 = .ok (.iconst 1, 1) := by decide +kernel
theorem dX5_readNumbers_81 : decode cX5_readNumbers 81 = .ok (.invokevirtual 170, 3) := by decide +kernel
theorem dX5_readNumbers_84 : decode cX5_readNumbers 84 = .ok (.iastore, 1) := by decide +kernel
theorem dX5_readNumbers_85 : decode cX5_readNumbers 85 = .ok (.return_, 1) := by decide +kernel
abbrev A5_readNumbers (G : GG) (Q : MM → Prop) := AW G E0 (MZ G (qV Q)) (WY yX5_readNumbers cX5_readNumbers 3 none) RX5 cX5_readNumbers 3 none ({ frames := 2, cells := 0, slots := 0, locals := 48 } : Room) 0 0
def D5_readNumbers_c27 (Q : MM → Prop) (x1 : Int32) (x2 : Int32) (s0 : Int32) (s2 : Int32) (s3 : Nat) (M : MM) : Prop := D5_readDigits s0 M (fun (r1 : Int32) (M2 : MM) => ib s3 s2 ∧ (fun M3 : MM => ((x1 ≠ (119 : Int32) → ((x1 ≠ (120 : Int32) → Q M3) ∧ (x1 = (120 : Int32) → D5_readDigits (1 : Int32) M3 (fun (r4 : Int32) (M5 : MM) => ib 74 (x2 + (1 : Int32)) ∧ (fun M6 : MM => Q M6) (up M5 74 (ix (x2 + (1 : Int32))) r4))))) ∧ (x1 = (119 : Int32) → D5_readDigits (1 : Int32) M3 (fun (r7 : Int32) (M8 : MM) => ib 74 (x2 + (1 : Int32)) ∧ (fun M9 : MM => D5_readDigits (2 : Int32) M9 (fun (r10 : Int32) (M11 : MM) => ib 74 (x2 + (2 : Int32)) ∧ (fun M12 : MM => Q M12) (up M11 74 (ix (x2 + (2 : Int32))) r10))) (up M8 74 (ix (x2 + (1 : Int32))) r7))))) (up M2 s3 (ix s2) r1))
def D5_readNumbers (x1 : Int32) (x2 : Int32) (M : MM) (Q : MM → Prop) : Prop := ((x1 ≠ (104 : Int32) → ((x1 ≠ (112 : Int32) → D5_readNumbers_c27 Q x1 x2 (1 : Int32) x2 74 M) ∧ (x1 = (112 : Int32) → D5_readNumbers_c27 Q x1 x2 (0 : Int32) x2 74 M))) ∧ (x1 = (104 : Int32) → D5_readNumbers_c27 Q x1 x2 (2 : Int32) x2 74 M))
set_option maxHeartbeats 4000000 in
set_option maxRecDepth 100000 in
theorem s5_readNumbers_c27 {G : GG} {Q : MM → Prop} : ∀ (x1 : Int32) (x2 : Int32) (s0 : Int32) (s2 : Int32) (s3 : Nat) (M : MM), D5_readNumbers_c27 Q x1 x2 s0 s2 s3 M → A5_readNumbers G Q 27 [(0, .ref (gA G 62)), (1, .int x1), (2, .int x2)] [.int s0, .ref (gA G 62), .int s2, .ref (gA G s3)] M := by
  intro x1 x2 s0 s2 s3 M h
  unfold D5_readNumbers_c27 at h
  refine a_callVi (n := 1) [.int _] (C := RX5) (ci := 3) (qc := (RX5, TX5, 40)) (fsF := fl3 G _) ob_62.1 (fun _ => en3 ob_62.2) rfl rfl dX5_readNumbers_27 (s5_readDigits h) (gV tbc kM_RX5_170_X5_readDigits kI_X5_readDigits kS_X5_readDigits kN_RX5 kC_X5_readDigits) rfl (by decide +kernel) ⟨Nat.le_of_ble_eq_true rfl, Nat.le_of_ble_eq_true rfl⟩ rfl rfl (Nat.le_of_ble_eq_true rfl) ⟨Nat.le_refl 0, Nat.le_refl 0⟩ (fun r M h => ?_)
  refine a_iast dX5_readNumbers_30 h.1 ?_
  have h := h.2
  refine a_iload_n dX5_readNumbers_31 1 rfl ?_
  refine a_bipush (v := 119) dX5_readNumbers_32 (by decide) ?_
  refine a_icmp_ne (tgt := 66) dX5_readNumbers_34 (by decide) (fun c => ?_) (fun c => ?_)
  · have h := h.1 c
    refine a_iload_n dX5_readNumbers_66 1 rfl ?_
    refine a_bipush (v := 120) dX5_readNumbers_67 (by decide) ?_
    refine a_icmp_ne (tgt := 85) dX5_readNumbers_69 (by decide) (fun c => ?_) (fun c => ?_)
    · have h := h.1 c
      exact a_vret dX5_readNumbers_85 ⟨rfl, h⟩
    · have h := h.2 c
      refine a_aload_n dX5_readNumbers_72 0 rfl ?_
      refine a_get3 dX5_readNumbers_73 23 (by decide) (tbc _ kF_RX5_43) (fun w h => tbc _ (uW3 w h)) rfl ob_62 rfl ?_
      refine a_iload_n dX5_readNumbers_76 2 rfl ?_
      refine a_iconst (v := 1) dX5_readNumbers_77 (by decide) ?_
      refine a_iadd dX5_readNumbers_78 ?_
      refine a_aload_n dX5_readNumbers_79 0 rfl ?_
      refine a_iconst (v := 1) dX5_readNumbers_80 (by decide) ?_
      refine a_callVi (n := 1) [.int _] (C := RX5) (ci := 3) (qc := (RX5, TX5, 40)) (fsF := fl3 G _) ob_62.1 (fun _ => en3 ob_62.2) rfl rfl dX5_readNumbers_81 (s5_readDigits h) (gV tbc kM_RX5_170_X5_readDigits kI_X5_readDigits kS_X5_readDigits kN_RX5 kC_X5_readDigits) rfl (by decide +kernel) ⟨Nat.le_of_ble_eq_true rfl, Nat.le_of_ble_eq_true rfl⟩ rfl rfl (Nat.le_of_ble_eq_true rfl) ⟨Nat.le_refl 0, Nat.le_refl 0⟩ (fun r M h => ?_)
      refine a_iast dX5_readNumbers_84 h.1 ?_
      have h := h.2
      exact a_vret dX5_readNumbers_85 ⟨rfl, h⟩
  · have h := h.2 c
    refine a_aload_n dX5_readNumbers_37 0 rfl ?_
    refine a_get3 dX5_readNumbers_38 23 (by decide) (tbc _ kF_RX5_43) (fun w h => tbc _ (uW3 w h)) rfl ob_62 rfl ?_
    refine a_iload_n dX5_readNumbers_41 2 rfl ?_
    refine a_iconst (v := 1) dX5_readNumbers_42 (by decide) ?_
    refine a_iadd dX5_readNumbers_43 ?_
    refine a_aload_n dX5_readNumbers_44 0 rfl ?_
    refine a_iconst (v := 1) dX5_readNumbers_45 (by decide) ?_
    refine a_callVi (n := 1) [.int _] (C := RX5) (ci := 3) (qc := (RX5, TX5, 40)) (fsF := fl3 G _) ob_62.1 (fun _ => en3 ob_62.2) rfl rfl dX5_readNumbers_46 (s5_readDigits h) (gV tbc kM_RX5_170_X5_readDigits kI_X5_readDigits kS_X5_readDigits kN_RX5 kC_X5_readDigits) rfl (by decide +kernel) ⟨Nat.le_of_ble_eq_true rfl, Nat.le_of_ble_eq_true rfl⟩ rfl rfl (Nat.le_of_ble_eq_true rfl) ⟨Nat.le_refl 0, Nat.le_refl 0⟩ (fun r M h => ?_)
    refine a_iast dX5_readNumbers_49 h.1 ?_
    have h := h.2
    refine a_aload_n dX5_readNumbers_50 0 rfl ?_
    refine a_get3 dX5_readNumbers_51 23 (by decide) (tbc _ kF_RX5_43) (fun w h => tbc _ (uW3 w h)) rfl ob_62 rfl ?_
    refine a_iload_n dX5_readNumbers_54 2 rfl ?_
    refine a_iconst (v := 2) dX5_readNumbers_55 (by decide) ?_
    refine a_iadd dX5_readNumbers_56 ?_
    refine a_aload_n dX5_readNumbers_57 0 rfl ?_
    refine a_iconst (v := 2) dX5_readNumbers_58 (by decide) ?_
    refine a_callVi (n := 1) [.int _] (C := RX5) (ci := 3) (qc := (RX5, TX5, 40)) (fsF := fl3 G _) ob_62.1 (fun _ => en3 ob_62.2) rfl rfl dX5_readNumbers_59 (s5_readDigits h) (gV tbc kM_RX5_170_X5_readDigits kI_X5_readDigits kS_X5_readDigits kN_RX5 kC_X5_readDigits) rfl (by decide +kernel) ⟨Nat.le_of_ble_eq_true rfl, Nat.le_of_ble_eq_true rfl⟩ rfl rfl (Nat.le_of_ble_eq_true rfl) ⟨Nat.le_refl 0, Nat.le_refl 0⟩ (fun r M h => ?_)
    refine a_iast dX5_readNumbers_62 h.1 ?_
    have h := h.2
    refine a_goto (tgt := 85) dX5_readNumbers_63 (by decide) ?_
    exact a_vret dX5_readNumbers_85 ⟨rfl, h⟩
set_option maxHeartbeats 4000000 in
set_option maxRecDepth 100000 in
theorem s5_readNumbers {G : GG} {x1 : Int32} {x2 : Int32} {M : MM} {Q : MM → Prop} (h : D5_readNumbers x1 x2 M Q) : CM G yX5_readNumbers (WY yX5_readNumbers cX5_readNumbers 3 none) 2 48 [.ref (gA G 62), .int x1, .int x2] M (qV Q) := by
  refine CM.of (cc := cX5_readNumbers) (nL := 3) (ret := none) (own := RX5) (by decide +kernel) rfl rfl (Nat.le_of_ble_eq_true rfl) ?_
  show A5_readNumbers G Q 0 [(0, .ref (gA G 62)), (1, .int x1), (2, .int x2)] [] M
  unfold D5_readNumbers at h
  refine a_aload_n dX5_readNumbers_0 0 rfl ?_
  refine a_get3 dX5_readNumbers_1 23 (by decide) (tbc _ kF_RX5_43) (fun w h => tbc _ (uW3 w h)) rfl ob_62 rfl ?_
  refine a_iload_n dX5_readNumbers_4 2 rfl ?_
  refine a_aload_n dX5_readNumbers_5 0 rfl ?_
  refine a_iload_n dX5_readNumbers_6 1 rfl ?_
  refine a_bipush (v := 104) dX5_readNumbers_7 (by decide) ?_
  refine a_icmp_ne (tgt := 16) dX5_readNumbers_9 (by decide) (fun c => ?_) (fun c => ?_)
  · have h := h.1 c
    refine a_iload_n dX5_readNumbers_16 1 rfl ?_
    refine a_bipush (v := 112) dX5_readNumbers_17 (by decide) ?_
    refine a_icmp_ne (tgt := 26) dX5_readNumbers_19 (by decide) (fun c => ?_) (fun c => ?_)
    · have h := h.1 c
      refine a_iconst (v := 1) dX5_readNumbers_26 (by decide) ?_
      refine a_sub [0, 1, 2] rfl ?_
      exact s5_readNumbers_c27 _ _ _ _ _ _ h
    · have h := h.2 c
      refine a_iconst (v := 0) dX5_readNumbers_22 (by decide) ?_
      refine a_goto (tgt := 27) dX5_readNumbers_23 (by decide) ?_
      refine a_sub [0, 1, 2] rfl ?_
      exact s5_readNumbers_c27 _ _ _ _ _ _ h
  · have h := h.2 c
    refine a_iconst (v := 2) dX5_readNumbers_12 (by decide) ?_
    refine a_goto (tgt := 27) dX5_readNumbers_13 (by decide) ?_
    refine a_sub [0, 1, 2] rfl ?_
    exact s5_readNumbers_c27 _ _ _ _ _ _ h

/-! X5_readStatement -/
theorem dX5_readStatement_0 : decode cX5_readStatement 0 = .ok (.aload_n 0, 1) := by decide +kernel
theorem dX5_readStatement_1 : decode cX5_readStatement 1 = .ok (.getfield 173, 3) := by decide +kernel
theorem dX5_readStatement_4 : decode cX5_readStatement 4 = .ok (.istore_n 1, 1) := by decide +kernel
theorem dX5_readStatement_5 : decode cX5_readStatement 5 = .ok (.aload_n 0, 1) := by decide +kernel
theorem dX5_readStatement_6 : decode cX5_readStatement 6 = .ok (.invokevirtual 162, 3) := by decide +kernel
theorem dX5_readStatement_9 : decode cX5_readStatement 9 = .ok (.istore_n 2, 1) := by decide +kernel
theorem dX5_readStatement_10 : decode cX5_readStatement 10 = .ok (.aload_n 0, 1) := by decide +kernel
theorem dX5_readStatement_11 : decode cX5_readStatement 11 = .ok (.getfield 37, 3) := by decide +kernel
theorem dX5_readStatement_14 : decode cX5_readStatement 14 = .ok (.iload_n 1, 1) := by decide +kernel
theorem dX5_readStatement_15 : decode cX5_readStatement 15 = .ok (.aload_n 0, 1) := by decide +kernel
theorem dX5_readStatement_16 : decode cX5_readStatement 16 = .ok (.getfield 155, 3) := by decide +kernel
theorem dX5_readStatement_19 : decode cX5_readStatement 19 = .ok (.iastore, 1) := by decide +kernel
theorem dX5_readStatement_20 : decode cX5_readStatement 20 = .ok (.aload_n 0, 1) := by decide +kernel
theorem dX5_readStatement_21 : decode cX5_readStatement 21 = .ok (.getfield 40, 3) := by decide +kernel
theorem dX5_readStatement_24 : decode cX5_readStatement 24 = .ok (.iload_n 1, 1) := by decide +kernel
theorem dX5_readStatement_25 : decode cX5_readStatement 25 = .ok (.iload_n 2, 1) := by decide +kernel
theorem dX5_readStatement_26 : decode cX5_readStatement 26 = .ok (.iastore, 1) := by decide +kernel
theorem dX5_readStatement_27 : decode cX5_readStatement 27 = .ok (.aload_n 0, 1) := by decide +kernel
theorem dX5_readStatement_28 : decode cX5_readStatement 28 = .ok (.aload_n 0, 1) := by decide +kernel
theorem dX5_readStatement_29 : decode cX5_readStatement 29 = .ok (.getfield 158, 3) := by decide +kernel
theorem dX5_readStatement_32 : decode cX5_readStatement 32 = .ok (.ifCond .ne 10, 3) := by decide +kernel
theorem dX5_readStatement_35 : decode cX5_readStatement 35 = .ok (.iload_n 2, 1) := by decide +kernel
theorem dX5_readStatement_36 : decode cX5_readStatement 36 = .ok (.invokestatic 176, 3) := by decide +kernel
theorem dX5_readStatement_39 : decode cX5_readStatement 39 = .ok (.ifCond .ne 7, 3) := by decide +kernel
theorem dX5_readStatement_42 : decode cX5_readStatement 42 = .ok (.iconst 1, 1) := by decide +kernel
theorem dX5_readStatement_43 : decode cX5_readStatement 43 = .ok (.goto 4, 3) := by decide +kernel
theorem dX5_readStatement_46 : decode cX5_readStatement 46 = .ok (.iconst 0, 1) := by decide +kernel
theorem dX5_readStatement_47 : decode cX5_readStatement 47 = .ok (.putfield 158, 3) := by decide +kernel
theorem dX5_readStatement_50 : decode cX5_readStatement 50 = .ok (.aload_n 0, 1) := by decide +kernel
theorem dX5_readStatement_51 : decode cX5_readStatement 51 = .ok (.dup, 1) := by decide +kernel
theorem dX5_readStatement_52 : decode cX5_readStatement 52 = .ok (.getfield 155, 3) := by decide +kernel
theorem dX5_readStatement_55 : decode cX5_readStatement 55 = .ok (.aload_n 0, 1) := by decide +kernel
theorem dX5_readStatement_56 : decode cX5_readStatement 56 = .ok (.getfield 158, 3) := by decide +kernel
theorem dX5_readStatement_59 : decode cX5_readStatement 59 = .ok (.ifCond .eq 7, 3) := by decide +kernel
theorem dX5_readStatement_62 : decode cX5_readStatement 62 = .ok (.iconst 0, 1) := by decide +kernel
theorem dX5_readStatement_63 : decode cX5_readStatement 63 = .ok (.goto 4, 3) := by decide +kernel
theorem dX5_readStatement_66 : decode cX5_readStatement 66 = .ok (.iconst 1, 1) := by decide +kernel
theorem dX5_readStatement_67 : decode cX5_readStatement 67 = .ok (.iadd, 1) := by decide +kernel
theorem dX5_readStatement_68 : decode cX5_readStatement 68 = .ok (.putfield 155, 3) := by decide +kernel
theorem dX5_readStatement_71 : decode cX5_readStatement 71 = .ok (.aload_n 0, 1) := by decide +kernel
theorem dX5_readStatement_72 : decode cX5_readStatement 72 = .ok (.getfield 158, 3) := by decide +kernel
theorem dX5_readStatement_75 : decode cX5_readStatement 75 = .ok (.ifCond .ne 11, 3) := by decide +kernel
theorem dX5_readStatement_78 : decode cX5_readStatement 78 = .ok (.aload_n 0, 1) := by decide +kernel
theorem dX5_readStatement_79 : decode cX5_readStatement 79 = .ok (.iload_n 2, 1) := by decide +kernel
theorem dX5_readStatement_80 : decode cX5_readStatement 80 = .ok (.iconst 3, 1) := by decide +kernel
theorem dX5_readStatement_81 : decode cX5_readStatement 81 = .ok (.iload_n 1, 1) := by decide +kernel
theorem dX5_readStatement_82 : decode cX5_readStatement 82 = .ok (.imul, 1) := by decide +kernel
theorem dX5_readStatement_83 : decode cX5_readStatement 83 = .ok (.invokevirtual 179, 3) := by decide +kernel
theorem dX5_readStatement_86 : decode cX5_readStatement 86 = .ok (.aload_n 0, 1) := by decide +kernel
theorem dX5_readStatement_87 : decode cX5_readStatement 87 = .ok (.aload_n 0, 1) := by decide +kernel
theorem dX5_readStatement_88 : decode cX5_readStatement 88 = .ok (.getfield 158, 3) := by decide +kernel
theorem dX5_readStatement_91 : decode cX5_readStatement 91 = .ok (.ifCond .ne 12, 3) := by decide +kernel
theorem dX5_readStatement_94 : decode cX5_readStatement 94 = .ok (.aload_n 0, 1) := by decide +kernel
theorem dX5_readStatement_95 : decode cX5_readStatement 95 = .ok (.invokevirtual 162, 3) := by decide +kernel
theorem dX5_readStatement_98 : decode cX5_readStatement 98 = .ok (.bipush 59, 2) := by decide +kernel
theorem dX5_readStatement_100 : decode cX5_readStatement 100 = .ok (.if_icmp .eq 7, 3) := by decide +kernel
theorem dX5_readStatement_103 : decode cX5_readStatement 103 = .ok (.iconst 1, 1) := by decide +kernel
theorem dX5_readStatement_104 : decode cX5_readStatement 104 = .ok (.goto 4, 3) := by decide +kernel
theorem dX5_readStatement_107 : decode cX5_readStatement 107 = .ok (.iconst 0, 1) := by decide +kernel
theorem dX5_readStatement_108 : decode cX5_readStatement 108 = .ok (.putfield 158, 3) := by decide +kernel
theorem dX5_readStatement_111 : decode cX5_readStatement 111 = .ok (.aload_n 0, 1) := by decide +kernel
theorem dX5_readStatement_112 : decode cX5_readStatement 112 = .ok (.dup, 1) := by decide +kernel
theorem dX5_readStatement_113 : decode cX5_readStatement 113 = .ok (.getfield 155, 3) := by decide +kernel
theorem dX5_readStatement_116 : decode cX5_readStatement 116 = .ok (.aload_n 0, 1) := by decide +kernel
theorem dX5_readStatement_117 : decode cX5_readStatement 117 = .ok (.getfield 158, 3) := by decide +kernel
theorem dX5_readStatement_120 : decode cX5_readStatement 120 = .ok (.ifCond .eq 7, 3) := by decide +kernel
theorem dX5_readStatement_123 : decode cX5_readStatement 123 = .ok (.iconst 0, 1) := by decide +kernel
theorem dX5_readStatement_124 : decode cX5_readStatement 124 = .ok (.goto 4, 3) := by decide +kernel
theorem dX5_readStatement_127 : decode cX5_readStatement 127 = .ok (.iconst 1, 1) := by decide +kernel
theorem dX5_readStatement_128 : decode cX5_readStatement 128 = .ok (.iadd, 1) := by decide +kernel
theorem dX5_readStatement_129 : decode cX5_readStatement 129 = .ok (.putfield 155, 3) := by decide +kernel
theorem dX5_readStatement_132 : decode cX5_readStatement 132 = .ok (.aload_n 0, 1) := by decide +kernel
theorem dX5_readStatement_133 : decode cX5_readStatement 133 = .ok (.dup, 1) := by decide +kernel
theorem dX5_readStatement_134 : decode cX5_readStatement 134 = .ok (.getfield 173, 3) := by decide +kernel
theorem dX5_readStatement_137 : decode cX5_readStatement 137 = .ok (.iconst 1, 1) := by decide +kernel
theorem dX5_readStatement_138 : decode cX5_readStatement 138 = .ok (.iadd, 1) := by decide +kernel
theorem dX5_readStatement_139 : decode cX5_readStatement 139 = .ok (.putfield 173, 3) := by decide +kernel
theorem dX5_readStatement_142 : decode cX5_readStatement 142 = .ok (.return_, 1) := by decide +kernel
abbrev A5_readStatement (G : GG) (Q : MM → Prop) := AW G E0 (MZ G (qV Q)) (WY yX5_readStatement cX5_readStatement 3 none) RX5 cX5_readStatement 3 none ({ frames := 3, cells := 0, slots := 0, locals := 70 } : Room) 0 0
def D5_readStatement_c128 (Q : MM → Prop) (s0 : Int32) (s1 : Int32) (M : MM) : Prop := (fun M15 : MM => (fun M16 : MM => Q M16) (up M15 62 20 ((M15 62 20) + (1 : Int32)))) (up M 62 18 (s1 + s0))
def D5_readStatement_c108 (Q : MM → Prop) (s0 : Int32) (M : MM) : Prop := bo s0 ∧ (fun M14 : MM => (((M14 62 19) = 0 → D5_readStatement_c128 Q (1 : Int32) (M14 62 18) M14) ∧ (¬ (M14 62 19) = 0 → D5_readStatement_c128 Q (0 : Int32) (M14 62 18) M14))) (up M 62 19 s0)
def D5_readStatement_c103 (Q : MM → Prop) (M : MM) : Prop := D5_readStatement_c108 Q (1 : Int32) M
def D5_readStatement_c86 (Q : MM → Prop) (M : MM) : Prop := (((M 62 19) ≠ 0 → D5_readStatement_c103 Q M) ∧ ((M 62 19) = 0 → D5_here M (fun (r12 : Int32) (M13 : MM) => ((r12 = (59 : Int32) → D5_readStatement_c108 Q (0 : Int32) M13) ∧ (¬ r12 = (59 : Int32) → D5_readStatement_c103 Q M13)))))
def D5_readStatement_c67 (Q : MM → Prop) (x1 : Int32) (x2 : Int32) (s0 : Int32) (s1 : Int32) (M : MM) : Prop := (fun M9 : MM => (((M9 62 19) ≠ 0 → D5_readStatement_c86 Q M9) ∧ ((M9 62 19) = 0 → D5_readNumbers x2 ((3 : Int32) * x1) M9 (fun (M11 : MM) => D5_readStatement_c86 Q M11)))) (up M 62 18 (s1 + s0))
def D5_readStatement_c47 (Q : MM → Prop) (x1 : Int32) (x2 : Int32) (s0 : Int32) (M : MM) : Prop := bo s0 ∧ (fun M8 : MM => (((M8 62 19) = 0 → D5_readStatement_c67 Q x1 x2 (1 : Int32) (M8 62 18) M8) ∧ (¬ (M8 62 19) = 0 → D5_readStatement_c67 Q x1 x2 (0 : Int32) (M8 62 18) M8))) (up M 62 19 s0)
def D5_readStatement_c42 (Q : MM → Prop) (x1 : Int32) (x2 : Int32) (M : MM) : Prop := D5_readStatement_c47 Q x1 x2 (1 : Int32) M
def D5_readStatement (M : MM) (Q : MM → Prop) : Prop := (fun v1 : Int32 => D5_here M (fun (r2 : Int32) (M3 : MM) => ib 72 v1 ∧ (fun M4 : MM => ib 73 v1 ∧ (fun M5 : MM => (((M5 62 19) ≠ 0 → D5_readStatement_c42 Q v1 r2 M5) ∧ ((M5 62 19) = 0 → D5_isLetter r2 M5 (fun (r6 : Int32) (M7 : MM) => ((r6 ≠ 0 → D5_readStatement_c47 Q v1 r2 (0 : Int32) M7) ∧ (r6 = 0 → D5_readStatement_c42 Q v1 r2 M7)))))) (up M4 73 (ix v1) r2)) (up M3 72 (ix v1) (M3 62 18)))) (M 62 20)
set_option maxHeartbeats 4000000 in
set_option maxRecDepth 100000 in
theorem s5_readStatement_c128 {G : GG} {Q : MM → Prop} : ∀ (s0 : Int32) (s1 : Int32) (M : MM), D5_readStatement_c128 Q s0 s1 M → A5_readStatement G Q 128 [(0, .ref (gA G 62))] [.int s0, .int s1, .ref (gA G 62)] M := by
  intro s0 s1 M h
  unfold D5_readStatement_c128 at h
  refine a_iadd dX5_readStatement_128 ?_
  refine a_put3 dX5_readStatement_129 18 (by decide) (tbc _ kF_RX5_155) (fun w h => tbc _ (uW3 w h)) rfl rfl rfl rfl ob_62 fs3_18 ?_
  refine a_aload_n dX5_readStatement_132 0 rfl ?_
  refine a_dup dX5_readStatement_133 rfl ?_
  refine a_get3 dX5_readStatement_134 20 (by decide) (tbc _ kF_RX5_173) (fun w h => tbc _ (uW3 w h)) rfl ob_62 rfl ?_
  refine a_iconst (v := 1) dX5_readStatement_137 (by decide) ?_
  refine a_iadd dX5_readStatement_138 ?_
  refine a_put3 dX5_readStatement_139 20 (by decide) (tbc _ kF_RX5_173) (fun w h => tbc _ (uW3 w h)) rfl rfl rfl rfl ob_62 fs3_20 ?_
  exact a_vret dX5_readStatement_142 ⟨rfl, h⟩
set_option maxHeartbeats 4000000 in
set_option maxRecDepth 100000 in
theorem s5_readStatement_c108 {G : GG} {Q : MM → Prop} : ∀ (s0 : Int32) (M : MM), D5_readStatement_c108 Q s0 M → A5_readStatement G Q 108 [(0, .ref (gA G 62))] [.int s0, .ref (gA G 62)] M := by
  intro s0 M h
  unfold D5_readStatement_c108 at h
  refine a_put3 dX5_readStatement_108 19 (by decide) (tbc _ kF_RX5_158) (fun w h => tbc _ (uW3 w h)) rfl rfl (bo_n h.1) (bo_f h.1) ob_62 fs3_19 ?_
  have h := h.2
  refine a_aload_n dX5_readStatement_111 0 rfl ?_
  refine a_dup dX5_readStatement_112 rfl ?_
  refine a_get3 dX5_readStatement_113 18 (by decide) (tbc _ kF_RX5_155) (fun w h => tbc _ (uW3 w h)) rfl ob_62 rfl ?_
  refine a_aload_n dX5_readStatement_116 0 rfl ?_
  refine a_get3 dX5_readStatement_117 19 (by decide) (tbc _ kF_RX5_158) (fun w h => tbc _ (uW3 w h)) rfl ob_62 rfl ?_
  refine a_if_eq (tgt := 127) dX5_readStatement_120 (by decide) (fun c => ?_) (fun c => ?_)
  · have h := h.1 c
    refine a_iconst (v := 1) dX5_readStatement_127 (by decide) ?_
    refine a_sub [0] rfl ?_
    exact s5_readStatement_c128 _ _ _ h
  · have h := h.2 c
    refine a_iconst (v := 0) dX5_readStatement_123 (by decide) ?_
    refine a_goto (tgt := 128) dX5_readStatement_124 (by decide) ?_
    refine a_sub [0] rfl ?_
    exact s5_readStatement_c128 _ _ _ h
set_option maxHeartbeats 4000000 in
set_option maxRecDepth 100000 in
theorem s5_readStatement_c103 {G : GG} {Q : MM → Prop} : ∀  (M : MM), D5_readStatement_c103 Q M → A5_readStatement G Q 103 [(0, .ref (gA G 62))] [.ref (gA G 62)] M := by
  intro  M h
  unfold D5_readStatement_c103 at h
  refine a_iconst (v := 1) dX5_readStatement_103 (by decide) ?_
  refine a_goto (tgt := 108) dX5_readStatement_104 (by decide) ?_
  refine a_sub [0] rfl ?_
  exact s5_readStatement_c108 _ _ h
set_option maxHeartbeats 4000000 in
set_option maxRecDepth 100000 in
theorem s5_readStatement_c86 {G : GG} {Q : MM → Prop} : ∀  (M : MM), D5_readStatement_c86 Q M → A5_readStatement G Q 86 [(0, .ref (gA G 62))] [] M := by
  intro  M h
  unfold D5_readStatement_c86 at h
  refine a_aload_n dX5_readStatement_86 0 rfl ?_
  refine a_aload_n dX5_readStatement_87 0 rfl ?_
  refine a_get3 dX5_readStatement_88 19 (by decide) (tbc _ kF_RX5_158) (fun w h => tbc _ (uW3 w h)) rfl ob_62 rfl ?_
  refine a_if_ne (tgt := 103) dX5_readStatement_91 (by decide) (fun c => ?_) (fun c => ?_)
  · have h := h.1 c
    refine a_sub [0] rfl ?_
    exact s5_readStatement_c103 _ h
  · have h := h.2 c
    refine a_aload_n dX5_readStatement_94 0 rfl ?_
    refine a_callVi (n := 0) [] (C := RX5) (ci := 3) (qc := (RX5, TX5, 40)) (fsF := fl3 G _) ob_62.1 (fun _ => en3 ob_62.2) rfl rfl dX5_readStatement_95 (s5_here h) (gV tbc kM_RX5_162_X5_here kI_X5_here kS_X5_here kN_RX5 kC_X5_here) rfl (by decide +kernel) ⟨Nat.le_of_ble_eq_true rfl, Nat.le_of_ble_eq_true rfl⟩ rfl rfl (Nat.le_of_ble_eq_true rfl) ⟨Nat.le_refl 0, Nat.le_refl 0⟩ (fun r M h => ?_)
    refine a_bipush (v := 59) dX5_readStatement_98 (by decide) ?_
    refine a_icmp_eq (tgt := 107) dX5_readStatement_100 (by decide) (fun c => ?_) (fun c => ?_)
    · have h := h.1 c
      refine a_iconst (v := 0) dX5_readStatement_107 (by decide) ?_
      refine a_sub [0] rfl ?_
      exact s5_readStatement_c108 _ _ h
    · have h := h.2 c
      refine a_sub [0] rfl ?_
      exact s5_readStatement_c103 _ h
set_option maxHeartbeats 4000000 in
set_option maxRecDepth 100000 in
theorem s5_readStatement_c67 {G : GG} {Q : MM → Prop} : ∀ (x1 : Int32) (x2 : Int32) (s0 : Int32) (s1 : Int32) (M : MM), D5_readStatement_c67 Q x1 x2 s0 s1 M → A5_readStatement G Q 67 [(0, .ref (gA G 62)), (1, .int x1), (2, .int x2)] [.int s0, .int s1, .ref (gA G 62)] M := by
  intro x1 x2 s0 s1 M h
  unfold D5_readStatement_c67 at h
  refine a_iadd dX5_readStatement_67 ?_
  refine a_put3 dX5_readStatement_68 18 (by decide) (tbc _ kF_RX5_155) (fun w h => tbc _ (uW3 w h)) rfl rfl rfl rfl ob_62 fs3_18 ?_
  refine a_aload_n dX5_readStatement_71 0 rfl ?_
  refine a_get3 dX5_readStatement_72 19 (by decide) (tbc _ kF_RX5_158) (fun w h => tbc _ (uW3 w h)) rfl ob_62 rfl ?_
  refine a_if_ne (tgt := 86) dX5_readStatement_75 (by decide) (fun c => ?_) (fun c => ?_)
  · have h := h.1 c
    refine a_sub [0] rfl ?_
    exact s5_readStatement_c86 _ h
  · have h := h.2 c
    refine a_aload_n dX5_readStatement_78 0 rfl ?_
    refine a_iload_n dX5_readStatement_79 2 rfl ?_
    refine a_iconst (v := 3) dX5_readStatement_80 (by decide) ?_
    refine a_iload_n dX5_readStatement_81 1 rfl ?_
    refine a_imul dX5_readStatement_82 ?_
    refine a_callVv (n := 2) [.int _, .int _] (C := RX5) (ci := 3) (qc := (RX5, TX5, 40)) (fsF := fl3 G _) ob_62.1 (fun _ => en3 ob_62.2) rfl rfl dX5_readStatement_83 (s5_readNumbers h) (gV tbc kM_RX5_179_X5_readNumbers kI_X5_readNumbers kS_X5_readNumbers kN_RX5 kC_X5_readNumbers) rfl (by decide +kernel) ⟨Nat.le_of_ble_eq_true rfl, Nat.le_of_ble_eq_true rfl⟩ rfl rfl (Nat.le_of_ble_eq_true rfl) ⟨Nat.le_refl 0, Nat.le_refl 0⟩ (fun M h => ?_)
    refine a_sub [0] rfl ?_
    exact s5_readStatement_c86 _ h
set_option maxHeartbeats 4000000 in
set_option maxRecDepth 100000 in
theorem s5_readStatement_c47 {G : GG} {Q : MM → Prop} : ∀ (x1 : Int32) (x2 : Int32) (s0 : Int32) (M : MM), D5_readStatement_c47 Q x1 x2 s0 M → A5_readStatement G Q 47 [(0, .ref (gA G 62)), (1, .int x1), (2, .int x2)] [.int s0, .ref (gA G 62)] M := by
  intro x1 x2 s0 M h
  unfold D5_readStatement_c47 at h
  refine a_put3 dX5_readStatement_47 19 (by decide) (tbc _ kF_RX5_158) (fun w h => tbc _ (uW3 w h)) rfl rfl (bo_n h.1) (bo_f h.1) ob_62 fs3_19 ?_
  have h := h.2
  refine a_aload_n dX5_readStatement_50 0 rfl ?_
  refine a_dup dX5_readStatement_51 rfl ?_
  refine a_get3 dX5_readStatement_52 18 (by decide) (tbc _ kF_RX5_155) (fun w h => tbc _ (uW3 w h)) rfl ob_62 rfl ?_
  refine a_aload_n dX5_readStatement_55 0 rfl ?_
  refine a_get3 dX5_readStatement_56 19 (by decide) (tbc _ kF_RX5_158) (fun w h => tbc _ (uW3 w h)) rfl ob_62 rfl ?_
  refine a_if_eq (tgt := 66) dX5_readStatement_59 (by decide) (fun c => ?_) (fun c => ?_)
  · have h := h.1 c
    refine a_iconst (v := 1) dX5_readStatement_66 (by decide) ?_
    refine a_sub [0, 1, 2] rfl ?_
    exact s5_readStatement_c67 _ _ _ _ _ h
  · have h := h.2 c
    refine a_iconst (v := 0) dX5_readStatement_62 (by decide) ?_
    refine a_goto (tgt := 67) dX5_readStatement_63 (by decide) ?_
    refine a_sub [0, 1, 2] rfl ?_
    exact s5_readStatement_c67 _ _ _ _ _ h
set_option maxHeartbeats 4000000 in
set_option maxRecDepth 100000 in
theorem s5_readStatement_c42 {G : GG} {Q : MM → Prop} : ∀ (x1 : Int32) (x2 : Int32) (M : MM), D5_readStatement_c42 Q x1 x2 M → A5_readStatement G Q 42 [(0, .ref (gA G 62)), (1, .int x1), (2, .int x2)] [.ref (gA G 62)] M := by
  intro x1 x2 M h
  unfold D5_readStatement_c42 at h
  refine a_iconst (v := 1) dX5_readStatement_42 (by decide) ?_
  refine a_goto (tgt := 47) dX5_readStatement_43 (by decide) ?_
  refine a_sub [0, 1, 2] rfl ?_
  exact s5_readStatement_c47 _ _ _ _ h
set_option maxHeartbeats 4000000 in
set_option maxRecDepth 100000 in
theorem s5_readStatement {G : GG} {M : MM} {Q : MM → Prop} (h : D5_readStatement M Q) : CM G yX5_readStatement (WY yX5_readStatement cX5_readStatement 3 none) 3 70 [.ref (gA G 62)] M (qV Q) := by
  refine CM.of (cc := cX5_readStatement) (nL := 3) (ret := none) (own := RX5) (by decide +kernel) rfl rfl (Nat.le_of_ble_eq_true rfl) ?_
  show A5_readStatement G Q 0 [(0, .ref (gA G 62))] [] M
  unfold D5_readStatement at h
  refine a_aload_n dX5_readStatement_0 0 rfl ?_
  refine a_get3 dX5_readStatement_1 20 (by decide) (tbc _ kF_RX5_173) (fun w h => tbc _ (uW3 w h)) rfl ob_62 rfl ?_
  refine a_istore_n (i := 1) (L' := [(1, .int _), (0, .ref _)]) dX5_readStatement_4 rfl (by decide) rfl ?_
  refine a_aload_n dX5_readStatement_5 1 rfl ?_
  refine a_callVi (n := 0) [] (C := RX5) (ci := 3) (qc := (RX5, TX5, 40)) (fsF := fl3 G _) ob_62.1 (fun _ => en3 ob_62.2) rfl rfl dX5_readStatement_6 (s5_here h) (gV tbc kM_RX5_162_X5_here kI_X5_here kS_X5_here kN_RX5 kC_X5_here) rfl (by decide +kernel) ⟨Nat.le_of_ble_eq_true rfl, Nat.le_of_ble_eq_true rfl⟩ rfl rfl (Nat.le_of_ble_eq_true rfl) ⟨Nat.le_refl 0, Nat.le_refl 0⟩ (fun r M h => ?_)
  refine a_istore_n (i := 2) (L' := [(2, .int _), (1, .int _), (0, .ref _)]) dX5_readStatement_9 rfl (by decide) rfl ?_
  refine a_aload_n dX5_readStatement_10 2 rfl ?_
  refine a_get3 dX5_readStatement_11 21 (by decide) (tbc _ kF_RX5_37) (fun w h => tbc _ (uW3 w h)) rfl ob_62 rfl ?_
  refine a_iload_n dX5_readStatement_14 1 rfl ?_
  refine a_aload_n dX5_readStatement_15 2 rfl ?_
  refine a_get3 dX5_readStatement_16 18 (by decide) (tbc _ kF_RX5_155) (fun w h => tbc _ (uW3 w h)) rfl ob_62 rfl ?_
  refine a_iast dX5_readStatement_19 h.1 ?_
  have h := h.2
  refine a_aload_n dX5_readStatement_20 2 rfl ?_
  refine a_get3 dX5_readStatement_21 22 (by decide) (tbc _ kF_RX5_40) (fun w h => tbc _ (uW3 w h)) rfl ob_62 rfl ?_
  refine a_iload_n dX5_readStatement_24 1 rfl ?_
  refine a_iload_n dX5_readStatement_25 0 rfl ?_
  refine a_iast dX5_readStatement_26 h.1 ?_
  have h := h.2
  refine a_aload_n dX5_readStatement_27 2 rfl ?_
  refine a_aload_n dX5_readStatement_28 2 rfl ?_
  refine a_get3 dX5_readStatement_29 19 (by decide) (tbc _ kF_RX5_158) (fun w h => tbc _ (uW3 w h)) rfl ob_62 rfl ?_
  refine a_if_ne (tgt := 42) dX5_readStatement_32 (by decide) (fun c => ?_) (fun c => ?_)
  · have h := h.1 c
    refine a_sub [2, 1, 0] rfl ?_
    exact s5_readStatement_c42 _ _ _ h
  · have h := h.2 c
    refine a_iload_n dX5_readStatement_35 0 rfl ?_
    refine a_callSi (n := 1) [.int _] dX5_readStatement_36 (s5_isLetter h) (gS tbc kM_RX5_176_X5_isLetter kT_X5_isLetter kN_RX5 kC_X5_isLetter) rfl (by decide +kernel) ⟨Nat.le_of_ble_eq_true rfl, Nat.le_of_ble_eq_true rfl⟩ rfl rfl (Nat.le_of_ble_eq_true rfl) ⟨Nat.le_refl 0, Nat.le_refl 0⟩ (fun r M h => ?_)
    refine a_if_ne (tgt := 46) dX5_readStatement_39 (by decide) (fun c => ?_) (fun c => ?_)
    · have h := h.1 c
      refine a_iconst (v := 0) dX5_readStatement_46 (by decide) ?_
      refine a_sub [2, 1, 0] rfl ?_
      exact s5_readStatement_c47 _ _ _ _ h
    · have h := h.2 c
      refine a_sub [2, 1, 0] rfl ?_
      exact s5_readStatement_c42 _ _ _ h

/-! X5_think -/
theorem dX5_think_0 : decode cX5_think 0 = .ok (.aload_n 0, 1) := by decide +kernel
theorem dX5_think_1 : decode cX5_think 1 = .ok (.aload_n 0, 1) := by decide +kernel
theorem dX5_think_2 : decode cX5_think 2 = .ok (.getfield 46, 3) := by decide +kernel
theorem dX5_think_5 : decode cX5_think 5 = .ok (.iconst 1, 1) := by decide +kernel
theorem dX5_think_6 : decode cX5_think 6 = .ok (.invokevirtual 233, 3) := by decide +kernel
theorem dX5_think_9 : decode cX5_think 9 = .ok (.return_, 1) := by decide +kernel
abbrev A5_think (G : GG) (Q : MM → Prop) := AW G E0 (MZ G (qV Q)) (WY yX5_think cX5_think 1 none) RX5 cX5_think 1 none ({ frames := 2, cells := 0, slots := 0, locals := 44 } : Room) 0 0
def D5_think (M : MM) (Q : MM → Prop) : Prop := D5_carryAll 75 (1 : Int32) M (fun (M2 : MM) => Q M2)
set_option maxHeartbeats 4000000 in
set_option maxRecDepth 100000 in
theorem s5_think {G : GG} {M : MM} {Q : MM → Prop} (h : D5_think M Q) : CM G yX5_think (WY yX5_think cX5_think 1 none) 2 44 [.ref (gA G 62)] M (qV Q) := by
  refine CM.of (cc := cX5_think) (nL := 1) (ret := none) (own := RX5) (by decide +kernel) rfl rfl (Nat.le_of_ble_eq_true rfl) ?_
  show A5_think G Q 0 [(0, .ref (gA G 62))] [] M
  unfold D5_think at h
  refine a_aload_n dX5_think_0 0 rfl ?_
  refine a_aload_n dX5_think_1 0 rfl ?_
  refine a_get3 dX5_think_2 24 (by decide) (tbc _ kF_RX5_46) (fun w h => tbc _ (uW3 w h)) rfl ob_62 rfl ?_
  refine a_iconst (v := 1) dX5_think_5 (by decide) ?_
  refine a_callVv (n := 2) [.ref _, .int _] (C := RX5) (ci := 3) (qc := (RX5, TX5, 40)) (fsF := fl3 G _) ob_62.1 (fun _ => en3 ob_62.2) rfl rfl dX5_think_6 (s5_carryAll h) (gV tbc kM_RX5_233_X5_carryAll kI_X5_carryAll kS_X5_carryAll kN_RX5 kC_X5_carryAll) rfl (by decide +kernel) ⟨Nat.le_of_ble_eq_true rfl, Nat.le_of_ble_eq_true rfl⟩ rfl rfl (Nat.le_of_ble_eq_true rfl) ⟨Nat.le_refl 0, Nat.le_refl 0⟩ (fun M h => ?_)
  exact a_vret dX5_think_9 ⟨rfl, h⟩

/-! X5_workComes -/
theorem dX5_workComes_0 : decode cX5_workComes 0 = .ok (.aload_n 0, 1) := by decide +kernel
theorem dX5_workComes_1 : decode cX5_workComes 1 = .ok (.getfield 7, 3) := by decide +kernel
theorem dX5_workComes_4 : decode cX5_workComes 4 = .ok (.aload_n 0, 1) := by decide +kernel
theorem dX5_workComes_5 : decode cX5_workComes 5 = .ok (.getfield 77, 3) := by decide +kernel
theorem dX5_workComes_8 : decode cX5_workComes 8 = .ok (.iload_n 1, 1) := by decide +kernel
theorem dX5_workComes_9 : decode cX5_workComes 9 = .ok (.iastore, 1) := by decide +kernel
theorem dX5_workComes_10 : decode cX5_workComes 10 = .ok (.aload_n 0, 1) := by decide +kernel
theorem dX5_workComes_11 : decode cX5_workComes 11 = .ok (.getfield 13, 3) := by decide +kernel
theorem dX5_workComes_14 : decode cX5_workComes 14 = .ok (.aload_n 0, 1) := by decide +kernel
theorem dX5_workComes_15 : decode cX5_workComes 15 = .ok (.getfield 77, 3) := by decide +kernel
theorem dX5_workComes_18 : decode cX5_workComes 18 = .ok (.iload_n 2, 1) := by decide +kernel
theorem dX5_workComes_19 : decode cX5_workComes 19 = .ok (.iastore, 1) := by decide +kernel
theorem dX5_workComes_20 : decode cX5_workComes 20 = .ok (.aload_n 0, 1) := by decide +kernel
theorem dX5_workComes_21 : decode cX5_workComes 21 = .ok (.getfield 16, 3) := by decide +kernel
theorem dX5_workComes_24 : decode cX5_workComes 24 = .ok (.aload_n 0, 1) := by decide +kernel
theorem dX5_workComes_25 : decode cX5_workComes 25 = .ok (.getfield 77, 3) := by decide +kernel
theorem dX5_workComes_28 : decode cX5_workComes 28 = .ok (.iload_n 3, 1) := by decide +kernel
theorem dX5_workComes_29 : decode cX5_workComes 29 = .ok (.iastore, 1) := by decide +kernel
theorem dX5_workComes_30 : decode cX5_workComes 30 = .ok (.aload_n 0, 1) := by decide +kernel
theorem dX5_workComes_31 : decode cX5_workComes 31 = .ok (.getfield 19, 3) := by decide +kernel
theorem dX5_workComes_34 : decode cX5_workComes 34 = .ok (.aload_n 0, 1) := by decide +kernel
theorem dX5_workComes_35 : decode cX5_workComes 35 = .ok (.getfield 77, 3) := by decide +kernel
theorem dX5_workComes_38 : decode cX5_workComes 38 = .ok (.iconst 0, 1) := by decide +kernel
theorem dX5_workComes_39 : decode cX5_workComes 39 = .ok (.iastore, 1) := by decide +kernel
theorem dX5_workComes_40 : decode cX5_workComes 40 = .ok (.aload_n 0, 1) := by decide +kernel
theorem dX5_workComes_41 : decode cX5_workComes 41 = .ok (.getfield 22, 3) := by decide +kernel
theorem dX5_workComes_44 : decode cX5_workComes 44 = .ok (.aload_n 0, 1) := by decide +kernel
theorem dX5_workComes_45 : decode cX5_workComes 45 = .ok (.getfield 77, 3) := by decide +kernel
theorem dX5_workComes_48 : decode cX5_workComes 48 = .ok (.iconst 0, 1) := by decide +kernel
theorem dX5_workComes_49 : decode cX5_workComes 49 = .ok (.iastore, 1) := by decide +kernel
theorem dX5_workComes_50 : decode cX5_workComes 50 = .ok (.aload_n 0, 1) := by decide +kernel
theorem dX5_workComes_51 : decode cX5_workComes 51 = .ok (.dup, 1) := by decide +kernel
theorem dX5_workComes_52 : decode cX5_workComes 52 = .ok (.getfield 77, 3) := by decide +kernel
theorem dX5_workComes_55 : decode cX5_workComes 55 = .ok (.iconst 1, 1) := by decide +kernel
theorem dX5_workComes_56 : decode cX5_workComes 56 = .ok (.iadd, 1) := by decide +kernel
theorem dX5_workComes_57 : decode cX5_workComes 57 = .ok (.putfield 77, 3) := by decide +kernel
theorem dX5_workComes_60 : decode cX5_workComes 60 = .ok (.return_, 1) := by decide +kernel
abbrev A5_workComes (G : GG) (Q : MM → Prop) := AW G E0 (MZ G (qV Q)) (WY yX5_workComes cX5_workComes 4 none) RX5 cX5_workComes 4 none ({ frames := 0, cells := 0, slots := 0, locals := 0 } : Room) 0 0
def D5_workComes (x1 : Int32) (x2 : Int32) (x3 : Int32) (M : MM) (Q : MM → Prop) : Prop := ib 63 (M 62 0) ∧ (fun M1 : MM => ib 64 (M1 62 0) ∧ (fun M2 : MM => ib 65 (M2 62 0) ∧ (fun M3 : MM => ib 66 (M3 62 0) ∧ (fun M4 : MM => ib 67 (M4 62 0) ∧ (fun M5 : MM => (fun M6 : MM => Q M6) (up M5 62 0 ((M5 62 0) + (1 : Int32)))) (up M4 67 (ix (M4 62 0)) (0 : Int32))) (up M3 66 (ix (M3 62 0)) (0 : Int32))) (up M2 65 (ix (M2 62 0)) x3)) (up M1 64 (ix (M1 62 0)) x2)) (up M 63 (ix (M 62 0)) x1)
set_option maxHeartbeats 4000000 in
set_option maxRecDepth 100000 in
theorem s5_workComes {G : GG} {x1 : Int32} {x2 : Int32} {x3 : Int32} {M : MM} {Q : MM → Prop} (h : D5_workComes x1 x2 x3 M Q) : CM G yX5_workComes (WY yX5_workComes cX5_workComes 4 none) 0 0 [.ref (gA G 62), .int x1, .int x2, .int x3] M (qV Q) := by
  refine CM.of (cc := cX5_workComes) (nL := 4) (ret := none) (own := RX5) (by decide +kernel) rfl rfl (Nat.le_of_ble_eq_true rfl) ?_
  show A5_workComes G Q 0 [(0, .ref (gA G 62)), (1, .int x1), (2, .int x2), (3, .int x3)] [] M
  unfold D5_workComes at h
  refine a_aload_n dX5_workComes_0 0 rfl ?_
  refine a_get3 dX5_workComes_1 1 (by decide) (tbc _ kF_RX5_7) (fun w h => tbc _ (uW3 w h)) rfl ob_62 rfl ?_
  refine a_aload_n dX5_workComes_4 0 rfl ?_
  refine a_get3 dX5_workComes_5 0 (by decide) (tbc _ kF_RX5_77) (fun w h => tbc _ (uW3 w h)) rfl ob_62 rfl ?_
  refine a_iload_n dX5_workComes_8 1 rfl ?_
  refine a_iast dX5_workComes_9 h.1 ?_
  have h := h.2
  refine a_aload_n dX5_workComes_10 0 rfl ?_
  refine a_get3 dX5_workComes_11 2 (by decide) (tbc _ kF_RX5_13) (fun w h => tbc _ (uW3 w h)) rfl ob_62 rfl ?_
  refine a_aload_n dX5_workComes_14 0 rfl ?_
  refine a_get3 dX5_workComes_15 0 (by decide) (tbc _ kF_RX5_77) (fun w h => tbc _ (uW3 w h)) rfl ob_62 rfl ?_
  refine a_iload_n dX5_workComes_18 2 rfl ?_
  refine a_iast dX5_workComes_19 h.1 ?_
  have h := h.2
  refine a_aload_n dX5_workComes_20 0 rfl ?_
  refine a_get3 dX5_workComes_21 3 (by decide) (tbc _ kF_RX5_16) (fun w h => tbc _ (uW3 w h)) rfl ob_62 rfl ?_
  refine a_aload_n dX5_workComes_24 0 rfl ?_
  refine a_get3 dX5_workComes_25 0 (by decide) (tbc _ kF_RX5_77) (fun w h => tbc _ (uW3 w h)) rfl ob_62 rfl ?_
  refine a_iload_n dX5_workComes_28 3 rfl ?_
  refine a_iast dX5_workComes_29 h.1 ?_
  have h := h.2
  refine a_aload_n dX5_workComes_30 0 rfl ?_
  refine a_get3 dX5_workComes_31 4 (by decide) (tbc _ kF_RX5_19) (fun w h => tbc _ (uW3 w h)) rfl ob_62 rfl ?_
  refine a_aload_n dX5_workComes_34 0 rfl ?_
  refine a_get3 dX5_workComes_35 0 (by decide) (tbc _ kF_RX5_77) (fun w h => tbc _ (uW3 w h)) rfl ob_62 rfl ?_
  refine a_iconst (v := 0) dX5_workComes_38 (by decide) ?_
  refine a_iast dX5_workComes_39 h.1 ?_
  have h := h.2
  refine a_aload_n dX5_workComes_40 0 rfl ?_
  refine a_get3 dX5_workComes_41 5 (by decide) (tbc _ kF_RX5_22) (fun w h => tbc _ (uW3 w h)) rfl ob_62 rfl ?_
  refine a_aload_n dX5_workComes_44 0 rfl ?_
  refine a_get3 dX5_workComes_45 0 (by decide) (tbc _ kF_RX5_77) (fun w h => tbc _ (uW3 w h)) rfl ob_62 rfl ?_
  refine a_iconst (v := 0) dX5_workComes_48 (by decide) ?_
  refine a_iast dX5_workComes_49 h.1 ?_
  have h := h.2
  refine a_aload_n dX5_workComes_50 0 rfl ?_
  refine a_dup dX5_workComes_51 rfl ?_
  refine a_get3 dX5_workComes_52 0 (by decide) (tbc _ kF_RX5_77) (fun w h => tbc _ (uW3 w h)) rfl ob_62 rfl ?_
  refine a_iconst (v := 1) dX5_workComes_55 (by decide) ?_
  refine a_iadd dX5_workComes_56 ?_
  refine a_put3 dX5_workComes_57 0 (by decide) (tbc _ kF_RX5_77) (fun w h => tbc _ (uW3 w h)) rfl rfl rfl rfl ob_62 fs3_0 ?_
  exact a_vret dX5_workComes_60 ⟨rfl, h⟩

/-! X5_payAll -/
theorem dX5_payAll_0 : decode cX5_payAll 0 = .ok (.aload_n 0, 1) := by decide +kernel
theorem dX5_payAll_1 : decode cX5_payAll 1 = .ok (.getfield 137, 3) := by decide +kernel
theorem dX5_payAll_4 : decode cX5_payAll 4 = .ok (.istore_n 1, 1) := by decide +kernel
theorem dX5_payAll_5 : decode cX5_payAll 5 = .ok (.aload_n 0, 1) := by decide +kernel
theorem dX5_payAll_6 : decode cX5_payAll 6 = .ok (.aload_n 0, 1) := by decide +kernel
theorem dX5_payAll_7 : decode cX5_payAll 7 = .ok (.getfield 131, 3) := by decide +kernel
theorem dX5_payAll_10 : decode cX5_payAll 10 = .ok (.aload_n 0, 1) := by decide +kernel
theorem dX5_payAll_11 : decode cX5_payAll 11 = .ok (.getfield 137, 3) := by decide +kernel
theorem dX5_payAll_14 : decode cX5_payAll 14 = .ok (.isub, 1) := by decide +kernel
theorem dX5_payAll_15 : decode cX5_payAll 15 = .ok (.sipush 9999, 3) := by decide +kernel
theorem dX5_payAll_18 : decode cX5_payAll 18 = .ok (.invokestatic 86, 3) := by decide +kernel
theorem dX5_payAll_21 : decode cX5_payAll 21 = .ok (.putfield 131, 3) := by decide +kernel
theorem dX5_payAll_24 : decode cX5_payAll 24 = .ok (.aload_n 0, 1) := by decide +kernel
theorem dX5_payAll_25 : decode cX5_payAll 25 = .ok (.iconst 0, 1) := by decide +kernel
theorem dX5_payAll_26 : decode cX5_payAll 26 = .ok (.putfield 137, 3) := by decide +kernel
theorem dX5_payAll_29 : decode cX5_payAll 29 = .ok (.iload_n 1, 1) := by decide +kernel
theorem dX5_payAll_30 : decode cX5_payAll 30 = .ok (.ireturn, 1) := by decide +kernel
abbrev A5_payAll (G : GG) (Q : Int32 → MM → Prop) := AW G E0 (MZ G (qI Q)) (WY yX5_payAll cX5_payAll 2 (some .int)) RX5 cX5_payAll 2 (some .int) ({ frames := 1, cells := 0, slots := 0, locals := 21 } : Room) 0 0
def D5_payAll (M : MM) (Q : Int32 → MM → Prop) : Prop := (fun v1 : Int32 => D5_held ((M 62 6) - (M 62 7)) (9999 : Int32) M (fun (r2 : Int32) (M3 : MM) => (fun M4 : MM => (fun M5 : MM => Q v1 M5) (up M4 62 7 (0 : Int32))) (up M3 62 6 r2))) (M 62 7)
set_option maxHeartbeats 4000000 in
set_option maxRecDepth 100000 in
theorem s5_payAll {G : GG} {M : MM} {Q : Int32 → MM → Prop} (h : D5_payAll M Q) : CM G yX5_payAll (WY yX5_payAll cX5_payAll 2 (some .int)) 1 21 [.ref (gA G 62)] M (qI Q) := by
  refine CM.of (cc := cX5_payAll) (nL := 2) (ret := (some .int)) (own := RX5) (by decide +kernel) rfl rfl (Nat.le_of_ble_eq_true rfl) ?_
  show A5_payAll G Q 0 [(0, .ref (gA G 62))] [] M
  unfold D5_payAll at h
  refine a_aload_n dX5_payAll_0 0 rfl ?_
  refine a_get3 dX5_payAll_1 7 (by decide) (tbc _ kF_RX5_137) (fun w h => tbc _ (uW3 w h)) rfl ob_62 rfl ?_
  refine a_istore_n (i := 1) (L' := [(1, .int _), (0, .ref _)]) dX5_payAll_4 rfl (by decide) rfl ?_
  refine a_aload_n dX5_payAll_5 1 rfl ?_
  refine a_aload_n dX5_payAll_6 1 rfl ?_
  refine a_get3 dX5_payAll_7 6 (by decide) (tbc _ kF_RX5_131) (fun w h => tbc _ (uW3 w h)) rfl ob_62 rfl ?_
  refine a_aload_n dX5_payAll_10 1 rfl ?_
  refine a_get3 dX5_payAll_11 7 (by decide) (tbc _ kF_RX5_137) (fun w h => tbc _ (uW3 w h)) rfl ob_62 rfl ?_
  refine a_isub dX5_payAll_14 ?_
  refine a_sipush (v := 9999) dX5_payAll_15 (by decide) ?_
  refine a_callSi (n := 2) [.int _, .int _] dX5_payAll_18 (s5_held h) (gS tbc kM_RX5_86_X5_held kT_X5_held kN_RX5 kC_X5_held) rfl (by decide +kernel) ⟨Nat.le_of_ble_eq_true rfl, Nat.le_of_ble_eq_true rfl⟩ rfl rfl (Nat.le_of_ble_eq_true rfl) ⟨Nat.le_refl 0, Nat.le_refl 0⟩ (fun r M h => ?_)
  refine a_put3 dX5_payAll_21 6 (by decide) (tbc _ kF_RX5_131) (fun w h => tbc _ (uW3 w h)) rfl rfl rfl rfl ob_62 fs3_6 ?_
  refine a_aload_n dX5_payAll_24 1 rfl ?_
  refine a_iconst (v := 0) dX5_payAll_25 (by decide) ?_
  refine a_put3 dX5_payAll_26 7 (by decide) (tbc _ kF_RX5_137) (fun w h => tbc _ (uW3 w h)) rfl rfl rfl rfl ob_62 fs3_7 ?_
  refine a_iload_n dX5_payAll_29 0 rfl ?_
  exact a_iret dX5_payAll_30 ⟨_, rfl, h⟩
