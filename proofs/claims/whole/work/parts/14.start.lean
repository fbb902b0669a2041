theorem kL_RL_7 : Cond.classLink RL 7 RX4 ∈ TB := tb_of 77 (by decide +kernel) rfl
theorem kL_RL_10 : Cond.classLink RL 10 RX5 ∈ TB := tb_of 708 (by decide +kernel) rfl
theorem kM_RL_9_X4_init : Cond.methodLink RL 9 yX4_init ∈ TB := tb_of 79 (by decide +kernel) rfl
theorem kM_RL_12_X5_init : Cond.methodLink RL 12 yX5_init ∈ TB := tb_of 710 (by decide +kernel) rfl
theorem kI_X4_init : Cond.instanceMethod yX4_init ∈ TB := tb_of 80 (by decide +kernel) rfl
theorem kI_X5_init : Cond.instanceMethod yX5_init ∈ TB := tb_of 711 (by decide +kernel) rfl
theorem kNF_RX4_123 : Cond.fieldLinkNest RX4 123 RX0 (TX0 4).2.1 (TX0 4).2.2.1 RX4 ∈ lw_tbl := List.mem_of_getElem? (i := 96) (by decide +kernel)
theorem kNF_RX4_146 : Cond.fieldLinkNest RX4 146 RX0 (TX0 8).2.1 (TX0 8).2.2.1 RX4 ∈ lw_tbl := List.mem_of_getElem? (i := 106) (by decide +kernel)
theorem kNF_RX4_152 : Cond.fieldLinkNest RX4 152 RX0 (TX0 6).2.1 (TX0 6).2.2.1 RX4 ∈ lw_tbl := List.mem_of_getElem? (i := 101) (by decide +kernel)
theorem kNF_RX4_158 : Cond.fieldLinkNest RX4 158 RX0 (TX0 7).2.1 (TX0 7).2.2.1 RX4 ∈ lw_tbl := List.mem_of_getElem? (i := 104) (by decide +kernel)
theorem kNF_RX4_183 : Cond.fieldLinkNest RX4 183 RX0 (TX0 5).2.1 (TX0 5).2.2.1 RX4 ∈ lw_tbl := List.mem_of_getElem? (i := 99) (by decide +kernel)
theorem kNF_RX2_70 : Cond.fieldLinkNest RX2 70 RX0 (TX0 4).2.1 (TX0 4).2.2.1 RX4 ∈ lw_tbl := List.mem_of_getElem? (i := 97) (by decide +kernel)
theorem kNF_RX2_96 : Cond.fieldLinkNest RX2 96 RX0 (TX0 6).2.1 (TX0 6).2.2.1 RX4 ∈ lw_tbl := List.mem_of_getElem? (i := 102) (by decide +kernel)
theorem kNM_RX2_64 : Cond.methodLinkNest RX2 64 yX4_isKind RX4 ∈ lw_tbl := List.mem_of_getElem? (i := 247) (by decide +kernel)
theorem kNM_RX2_67 : Cond.methodLinkNest RX2 67 yX4_isCell RX4 ∈ lw_tbl := List.mem_of_getElem? (i := 250) (by decide +kernel)
theorem kNM_RX4_9 : Cond.methodLinkNest RX4 9 yX0_init RX4 ∈ lw_tbl := List.mem_of_getElem? (i := 87) (by decide +kernel)
theorem kNM_RX4_28 : Cond.methodLinkNest RX4 28 yX2_init RX4 ∈ lw_tbl := List.mem_of_getElem? (i := 130) (by decide +kernel)
theorem kAO : Cond.arrayOver (.object RX0) ∈ lw_tbl := List.mem_of_getElem? (i := 127) (by decide +kernel)
def EB (G : GG) (b Ls : Nat) (xs : Nat → Int32) : Array Value → State → Method → Prop := fun args s _ => EL G b Ls xs args s
theorem vq_congr (cA : ClassId) (n : Nat) {f f' : Nat → Option Nat} (h : ∀ j, j < n → f j = f' j) : vp_cell cA (n, .inr (.inr (.inr (.inr f)))) = vp_cell cA (n, .inr (.inr (.inr (.inr f')))) := by
  show arrV cA n (fun k => va_rf (f k)) = arrV cA n (fun k => va_rf (f' k))
  unfold arrV
  have e1 : (Array.ofFn (n := n) fun j => va_rf (f j.val)) = Array.ofFn (n := n) fun j => va_rf (f' j.val) := congrArg Array.ofFn (funext fun j => by rw [h j.val j.isLt])
  rw [e1]
def adF (qs ml : List Nat) : Nat → Nat := fun p => if p < 62 then qs.getD p 0 else ml.getD (p - 62) 0
def G1 (G : GG) (qs ml : List Nat) : GG := (G.1, G.2.1, G.2.2.1, adF qs ml, G.2.2.2.2)
def posT : List Nat := [13, 12, 14, 15, 16, 17, 11, 18, 19, 20, 21, 10, 22, 23, 24, 25, 8, 31, 32, 33, 34, 7, 35, 36, 37, 38, 6, 39, 40, 41, 42, 5, 43, 44, 45, 46, 4, 47, 48, 49, 50, 3, 51, 52, 53, 54, 2, 55, 56, 57, 58, 1, 59, 60, 61, 62, 26, 9, 27, 28, 29, 30, 0, 63, 64, 65, 66, 67, 68, 69, 70, 71, 72, 73, 74, 75, 76, 77, 78, 79, 80, 81, 82, 83]
theorem posT_inj : ∀ i, i < 84 → ∀ j, j < 84 → posT.getD i 0 = posT.getD j 0 → i = j := by decide +kernel
set_option maxHeartbeats 16000000 in
set_option maxRecDepth 100000 in
theorem ws_pos {G : GG} {qs : List Nat} {qm m1 m2 m3 m4 m5 m6 m7 m8 m9 m10 m11 m12 m13 m14 m15 m16 m17 m18 m19 m20 m21 : Nat} : ∀ k, k < 84 → ∃ e, ((qm, .inr (3, [.int 0, .ref m1, .ref m2, .ref m3, .ref m4, .ref m5, .int 0, .int 0, .int 0, .int 0, .ref m6, .ref m7, .int 0, .ref m8, .int 0, .int 0, .ref m9, .int 0, .int 0, .int 0, .int 0, .ref m10, .ref m11, .ref m12, .ref m13, .ref m14, .int 0, .int 0, .int 0, .null, .ref m15, .ref m16, .int 0, .ref m17, .ref m18, .ref m19, .int 0, .ref m20, .ref m21, .int 0])) :: (W62 G qs ++ [(m1, zA G 10), (m2, zA G 10), (m3, zA G 10), (m4, zA G 10), (m5, zA G 10), (m6, zA G 7), (m7, zA G 25), (m8, zA G 25), (m9, zA G 96), (m10, zA G 49), (m11, zA G 49), (m12, zA G 147), (m13, zA G 44), (m14, zA G 44), (m15, zA G 352), (m16, zA G 44), (m17, zA G 25), (m18, zA G 2304), (m19, zA G 12), (m20, zA G 4), (m21, zA G 4)]))[posT.getD k 0]? = some (gA (G1 G qs [qm, m1, m2, m3, m4, m5, m6, m7, m8, m9, m10, m11, m12, m13, m14, m15, m16, m17, m18, m19, m20, m21]) k, e) := by
  intro k hk
  match k, hk with
  | 0, _ => exact ⟨_, rfl⟩
  | 1, _ => exact ⟨_, rfl⟩
  | 2, _ => exact ⟨_, rfl⟩
  | 3, _ => exact ⟨_, rfl⟩
  | 4, _ => exact ⟨_, rfl⟩
  | 5, _ => exact ⟨_, rfl⟩
  | 6, _ => exact ⟨_, rfl⟩
  | 7, _ => exact ⟨_, rfl⟩
  | 8, _ => exact ⟨_, rfl⟩
  | 9, _ => exact ⟨_, rfl⟩
  | 10, _ => exact ⟨_, rfl⟩
  | 11, _ => exact ⟨_, rfl⟩
  | 12, _ => exact ⟨_, rfl⟩
  | 13, _ => exact ⟨_, rfl⟩
  | 14, _ => exact ⟨_, rfl⟩
  | 15, _ => exact ⟨_, rfl⟩
  | 16, _ => exact ⟨_, rfl⟩
  | 17, _ => exact ⟨_, rfl⟩
  | 18, _ => exact ⟨_, rfl⟩
  | 19, _ => exact ⟨_, rfl⟩
  | 20, _ => exact ⟨_, rfl⟩
  | 21, _ => exact ⟨_, rfl⟩
  | 22, _ => exact ⟨_, rfl⟩
  | 23, _ => exact ⟨_, rfl⟩
  | 24, _ => exact ⟨_, rfl⟩
  | 25, _ => exact ⟨_, rfl⟩
  | 26, _ => exact ⟨_, rfl⟩
  | 27, _ => exact ⟨_, rfl⟩
  | 28, _ => exact ⟨_, rfl⟩
  | 29, _ => exact ⟨_, rfl⟩
  | 30, _ => exact ⟨_, rfl⟩
  | 31, _ => exact ⟨_, rfl⟩
  | 32, _ => exact ⟨_, rfl⟩
  | 33, _ => exact ⟨_, rfl⟩
  | 34, _ => exact ⟨_, rfl⟩
  | 35, _ => exact ⟨_, rfl⟩
  | 36, _ => exact ⟨_, rfl⟩
  | 37, _ => exact ⟨_, rfl⟩
  | 38, _ => exact ⟨_, rfl⟩
  | 39, _ => exact ⟨_, rfl⟩
  | 40, _ => exact ⟨_, rfl⟩
  | 41, _ => exact ⟨_, rfl⟩
  | 42, _ => exact ⟨_, rfl⟩
  | 43, _ => exact ⟨_, rfl⟩
  | 44, _ => exact ⟨_, rfl⟩
  | 45, _ => exact ⟨_, rfl⟩
  | 46, _ => exact ⟨_, rfl⟩
  | 47, _ => exact ⟨_, rfl⟩
  | 48, _ => exact ⟨_, rfl⟩
  | 49, _ => exact ⟨_, rfl⟩
  | 50, _ => exact ⟨_, rfl⟩
  | 51, _ => exact ⟨_, rfl⟩
  | 52, _ => exact ⟨_, rfl⟩
  | 53, _ => exact ⟨_, rfl⟩
  | 54, _ => exact ⟨_, rfl⟩
  | 55, _ => exact ⟨_, rfl⟩
  | 56, _ => exact ⟨_, rfl⟩
  | 57, _ => exact ⟨_, rfl⟩
  | 58, _ => exact ⟨_, rfl⟩
  | 59, _ => exact ⟨_, rfl⟩
  | 60, _ => exact ⟨_, rfl⟩
  | 61, _ => exact ⟨_, rfl⟩
  | 62, _ => exact ⟨_, rfl⟩
  | 63, _ => exact ⟨_, rfl⟩
  | 64, _ => exact ⟨_, rfl⟩
  | 65, _ => exact ⟨_, rfl⟩
  | 66, _ => exact ⟨_, rfl⟩
  | 67, _ => exact ⟨_, rfl⟩
  | 68, _ => exact ⟨_, rfl⟩
  | 69, _ => exact ⟨_, rfl⟩
  | 70, _ => exact ⟨_, rfl⟩
  | 71, _ => exact ⟨_, rfl⟩
  | 72, _ => exact ⟨_, rfl⟩
  | 73, _ => exact ⟨_, rfl⟩
  | 74, _ => exact ⟨_, rfl⟩
  | 75, _ => exact ⟨_, rfl⟩
  | 76, _ => exact ⟨_, rfl⟩
  | 77, _ => exact ⟨_, rfl⟩
  | 78, _ => exact ⟨_, rfl⟩
  | 79, _ => exact ⟨_, rfl⟩
  | 80, _ => exact ⟨_, rfl⟩
  | 81, _ => exact ⟨_, rfl⟩
  | 82, _ => exact ⟨_, rfl⟩
  | 83, _ => exact ⟨_, rfl⟩
  | k + 84, h => exact absurd h (by omega)
set_option maxHeartbeats 16000000 in
set_option maxRecDepth 100000 in
theorem ws_at {G : GG} {qs : List Nat} {qm m1 m2 m3 m4 m5 m6 m7 m8 m9 m10 m11 m12 m13 m14 m15 m16 m17 m18 m19 m20 m21 : Nat} {H : Heap} (hP : va_P (gD G) vwCl ((qm, .inr (3, [.int 0, .ref m1, .ref m2, .ref m3, .ref m4, .ref m5, .int 0, .int 0, .int 0, .int 0, .ref m6, .ref m7, .int 0, .ref m8, .int 0, .int 0, .ref m9, .int 0, .int 0, .int 0, .int 0, .ref m10, .ref m11, .ref m12, .ref m13, .ref m14, .int 0, .int 0, .int 0, .null, .ref m15, .ref m16, .int 0, .ref m17, .ref m18, .ref m19, .int 0, .ref m20, .ref m21, .int 0])) :: (W62 G qs ++ [(m1, zA G 10), (m2, zA G 10), (m3, zA G 10), (m4, zA G 10), (m5, zA G 10), (m6, zA G 7), (m7, zA G 25), (m8, zA G 25), (m9, zA G 96), (m10, zA G 49), (m11, zA G 49), (m12, zA G 147), (m13, zA G 44), (m14, zA G 44), (m15, zA G 352), (m16, zA G 44), (m17, zA G 25), (m18, zA G 2304), (m19, zA G 12), (m20, zA G 4), (m21, zA G 4)])) H) : ∀ k, k < 84 → va_at (gD G) vwCl (gA (G1 G qs [qm, m1, m2, m3, m4, m5, m6, m7, m8, m9, m10, m11, m12, m13, m14, m15, m16, m17, m18, m19, m20, m21]) k, en (G1 G qs [qm, m1, m2, m3, m4, m5, m6, m7, m8, m9, m10, m11, m12, m13, m14, m15, m16, m17, m18, m19, m20, m21]) k (fun _ => 0)) H := by
  intro k hk
  match k, hk with
  | 0, _ => exact hP 13 _ rfl
  | 1, _ => exact hP 12 _ rfl
  | 2, _ => exact hP 14 _ rfl
  | 3, _ => exact hP 15 _ rfl
  | 4, _ => exact hP 16 _ rfl
  | 5, _ => exact hP 17 _ rfl
  | 6, _ => exact hP 11 _ rfl
  | 7, _ => exact hP 18 _ rfl
  | 8, _ => exact hP 19 _ rfl
  | 9, _ => exact hP 20 _ rfl
  | 10, _ => exact hP 21 _ rfl
  | 11, _ => exact hP 10 _ rfl
  | 12, _ => exact hP 22 _ rfl
  | 13, _ => exact hP 23 _ rfl
  | 14, _ => exact hP 24 _ rfl
  | 15, _ => exact hP 25 _ rfl
  | 16, _ => exact hP 8 _ rfl
  | 17, _ => exact hP 31 _ rfl
  | 18, _ => exact hP 32 _ rfl
  | 19, _ => exact hP 33 _ rfl
  | 20, _ => exact hP 34 _ rfl
  | 21, _ => exact hP 7 _ rfl
  | 22, _ => exact hP 35 _ rfl
  | 23, _ => exact hP 36 _ rfl
  | 24, _ => exact hP 37 _ rfl
  | 25, _ => exact hP 38 _ rfl
  | 26, _ => exact hP 6 _ rfl
  | 27, _ => exact hP 39 _ rfl
  | 28, _ => exact hP 40 _ rfl
  | 29, _ => exact hP 41 _ rfl
  | 30, _ => exact hP 42 _ rfl
  | 31, _ => exact hP 5 _ rfl
  | 32, _ => exact hP 43 _ rfl
  | 33, _ => exact hP 44 _ rfl
  | 34, _ => exact hP 45 _ rfl
  | 35, _ => exact hP 46 _ rfl
  | 36, _ => exact hP 4 _ rfl
  | 37, _ => exact hP 47 _ rfl
  | 38, _ => exact hP 48 _ rfl
  | 39, _ => exact hP 49 _ rfl
  | 40, _ => exact hP 50 _ rfl
  | 41, _ => exact hP 3 _ rfl
  | 42, _ => exact hP 51 _ rfl
  | 43, _ => exact hP 52 _ rfl
  | 44, _ => exact hP 53 _ rfl
  | 45, _ => exact hP 54 _ rfl
  | 46, _ => exact hP 2 _ rfl
  | 47, _ => exact hP 55 _ rfl
  | 48, _ => exact hP 56 _ rfl
  | 49, _ => exact hP 57 _ rfl
  | 50, _ => exact hP 58 _ rfl
  | 51, _ => exact hP 1 _ rfl
  | 52, _ => exact hP 59 _ rfl
  | 53, _ => exact hP 60 _ rfl
  | 54, _ => exact hP 61 _ rfl
  | 55, _ => exact hP 62 _ rfl
  | 56, _ => exact (show H[_]? = some (vp_cell _ _) from (show H[gA (G1 G qs [qm, m1, m2, m3, m4, m5, m6, m7, m8, m9, m10, m11, m12, m13, m14, m15, m16, m17, m18, m19, m20, m21]) 56]? = some (vp_cell (gC G) (8, .inr (.inr (.inr (.inr (va_up (va_up (va_up (va_up (va_up (va_up (va_up (va_up (fun _ => none) 0 (some (qs.getD 16 0))) 1 (some (qs.getD 21 0))) 2 (some (qs.getD 26 0))) 3 (some (qs.getD 31 0))) 4 (some (qs.getD 36 0))) 5 (some (qs.getD 41 0))) 6 (some (qs.getD 46 0))) 7 (some (qs.getD 51 0))))))))from hP 26 _ rfl).trans (congrArg some (vq_congr (gC G) 8 (fun j hj => by rcases (show j = 0 ∨ j = 1 ∨ j = 2 ∨ j = 3 ∨ j = 4 ∨ j = 5 ∨ j = 6 ∨ j = 7 by omega) with rfl | rfl | rfl | rfl | rfl | rfl | rfl | rfl <;> rfl))))
  | 57, _ => exact hP 9 _ rfl
  | 58, _ => exact hP 27 _ rfl
  | 59, _ => exact hP 28 _ rfl
  | 60, _ => exact hP 29 _ rfl
  | 61, _ => exact hP 30 _ rfl
  | 62, _ => exact hP 0 _ rfl
  | 63, _ => exact hP 63 _ rfl
  | 64, _ => exact hP 64 _ rfl
  | 65, _ => exact hP 65 _ rfl
  | 66, _ => exact hP 66 _ rfl
  | 67, _ => exact hP 67 _ rfl
  | 68, _ => exact hP 68 _ rfl
  | 69, _ => exact hP 69 _ rfl
  | 70, _ => exact hP 70 _ rfl
  | 71, _ => exact hP 71 _ rfl
  | 72, _ => exact hP 72 _ rfl
  | 73, _ => exact hP 73 _ rfl
  | 74, _ => exact hP 74 _ rfl
  | 75, _ => exact hP 75 _ rfl
  | 76, _ => exact hP 76 _ rfl
  | 77, _ => exact hP 77 _ rfl
  | 78, _ => exact hP 78 _ rfl
  | 79, _ => exact hP 79 _ rfl
  | 80, _ => exact hP 80 _ rfl
  | 81, _ => exact hP 81 _ rfl
  | 82, _ => exact hP 82 _ rfl
  | 83, _ => exact hP 83 _ rfl
  | k + 84, h => exact absurd h (by omega)
theorem WS_lt {G : GG} {M : MM} {k : Nat} {q : Nat × va_E} (h : (WS G M)[k]? = some q) : k < 84 ∧ q = (gA G k, en G k (M k)) := by
  have h1 : k < (WS G M).length := (List.getElem?_eq_some_iff.mp h).1
  have h2 : k < 84 := by simpa [WS] using h1
  rw [WS_get h2] at h
  exact ⟨h2, (Option.some.inj h).symm⟩
theorem gN_of {G : GG} {args : Array Value} {s : State} (hts : ∀ w ∈ lw_tbl, w.before args s = true) : gN s := ⟨va_Nw.of rfl (hts _ kNF_RX4_123), va_Nw.of rfl (hts _ kNF_RX4_146), va_Nw.of rfl (hts _ kNF_RX4_152), va_Nw.of rfl (hts _ kNF_RX4_158), va_Nw.of rfl (hts _ kNF_RX4_183), va_Nw.of rfl (hts _ kNF_RX2_70), va_Nw.of rfl (hts _ kNF_RX2_96), va_Nw.of rfl (hts _ kNM_RX2_64), va_Nw.of rfl (hts _ kNM_RX2_67)⟩
theorem gN2_of {args : Array Value} {s : State} (hts : ∀ w ∈ lw_tbl, w.before args s = true) : gN2 s := ⟨va_AO.of (hts _ kAO), va_Nw.of rfl (hts _ kNM_RX4_9), va_Nw.of rfl (hts _ kNM_RX4_28)⟩
/-- behind the constructors: the abstract memory of zeros -/
theorem law_bridge {G : GG} {qs : List Nat} {qm m1 m2 m3 m4 m5 m6 m7 m8 m9 m10 m11 m12 m13 m14 m15 m16 m17 m18 m19 m20 m21 : Nat} {b Ls : Nat} {xs : Nat → Int32} (k : AW (G1 G qs [qm, m1, m2, m3, m4, m5, m6, m7, m8, m9, m10, m11, m12, m13, m14, m15, m16, m17, m18, m19, m20, m21]) (EL (G1 G qs [qm, m1, m2, m3, m4, m5, m6, m7, m8, m9, m10, m11, m12, m13, m14, m15, m16, m17, m18, m19, m20, m21]) b Ls xs) ZL lw_tbl RL cL_law 4 ret room_1 84 6045 18 [(0, .ref b), (1, .ref (gA (G1 G qs [qm, m1, m2, m3, m4, m5, m6, m7, m8, m9, m10, m11, m12, m13, m14, m15, m16, m17, m18, m19, m20, m21]) 0)), (2, .ref (gA (G1 G qs [qm, m1, m2, m3, m4, m5, m6, m7, m8, m9, m10, m11, m12, m13, m14, m15, m16, m17, m18, m19, m20, m21]) 62)), (3, .int 0)] [] (fun _ _ => 0)) :
    BW G (EB G b Ls xs) ZL lw_tbl RL cL_law 4 ret room_1 84 6045 18 [(3, .int 0), (2, .ref qm), (1, .ref (qs.getD 0 0)), (0, .ref b)] [] ((qm, .inr (3, [.int 0, .ref m1, .ref m2, .ref m3, .ref m4, .ref m5, .int 0, .int 0, .int 0, .int 0, .ref m6, .ref m7, .int 0, .ref m8, .int 0, .int 0, .ref m9, .int 0, .int 0, .int 0, .int 0, .ref m10, .ref m11, .ref m12, .ref m13, .ref m14, .int 0, .int 0, .int 0, .null, .ref m15, .ref m16, .int 0, .ref m17, .ref m18, .ref m19, .int 0, .ref m20, .ref m21, .int 0])) :: (W62 G qs ++ [(m1, zA G 10), (m2, zA G 10), (m3, zA G 10), (m4, zA G 10), (m5, zA G 10), (m6, zA G 7), (m7, zA G 25), (m8, zA G 25), (m9, zA G 96), (m10, zA G 49), (m11, zA G 49), (m12, zA G 147), (m13, zA G 44), (m14, zA G 44), (m15, zA G 352), (m16, zA G 44), (m17, zA G 25), (m18, zA G 2304), (m19, zA G 12), (m20, zA G 4), (m21, zA G 4)])) := by
  intro p e s m args below meth c H locs ls h
  obtain ⟨h1, h2, h3, h4, h5, h6, h7, h8, hP, hD, hS, h12, h13, hl⟩ := h
  refine k p e s m args below meth c H locs ls ⟨h1, h2, h3, h4, h5, h6, h7, ⟨h8.1, gN_of (G := G) h7⟩, fun k q hk => ?_, ⟨fun i j p q hi hj hpq => ?_, fun k q hk => ?_⟩, hS, h12, h13, lv_sub hl [3, 2, 1, 0] rfl⟩
  · obtain ⟨hk1, rfl⟩ := WS_lt hk
    exact ws_at hP k hk1
  · obtain ⟨hi1, rfl⟩ := WS_lt hi
    obtain ⟨hj1, rfl⟩ := WS_lt hj
    obtain ⟨e1, f1⟩ := ws_pos (G := G) (qs := qs) (qm := qm) (m1 := m1) (m2 := m2) (m3 := m3) (m4 := m4) (m5 := m5) (m6 := m6) (m7 := m7) (m8 := m8) (m9 := m9) (m10 := m10) (m11 := m11) (m12 := m12) (m13 := m13) (m14 := m14) (m15 := m15) (m16 := m16) (m17 := m17) (m18 := m18) (m19 := m19) (m20 := m20) (m21 := m21) i hi1
    obtain ⟨e2, f2⟩ := ws_pos (G := G) (qs := qs) (qm := qm) (m1 := m1) (m2 := m2) (m3 := m3) (m4 := m4) (m5 := m5) (m6 := m6) (m7 := m7) (m8 := m8) (m9 := m9) (m10 := m10) (m11 := m11) (m12 := m12) (m13 := m13) (m14 := m14) (m15 := m15) (m16 := m16) (m17 := m17) (m18 := m18) (m19 := m19) (m20 := m20) (m21 := m21) j hj1
    exact posT_inj i hi1 j hj1 (hD.1 _ _ _ _ f1 f2 hpq)
  · obtain ⟨hk1, rfl⟩ := WS_lt hk
    obtain ⟨e1, f1⟩ := ws_pos (G := G) (qs := qs) (qm := qm) (m1 := m1) (m2 := m2) (m3 := m3) (m4 := m4) (m5 := m5) (m6 := m6) (m7 := m7) (m8 := m8) (m9 := m9) (m10 := m10) (m11 := m11) (m12 := m12) (m13 := m13) (m14 := m14) (m15 := m15) (m16 := m16) (m17 := m17) (m18 := m18) (m19 := m19) (m20 := m20) (m21 := m21) k hk1
    have f2 := hD.2 _ _ f1
    exact f2
set_option maxHeartbeats 16000000 in
set_option maxRecDepth 100000 in
theorem law_head {G : GG} {b Ls : Nat} {xs : Nat → Int32} (k : ∀ (qs : List Nat) (qm m1 m2 m3 m4 m5 m6 m7 m8 m9 m10 m11 m12 m13 m14 m15 m16 m17 m18 m19 m20 m21 : Nat), BW G (EB G b Ls xs) ZL lw_tbl RL cL_law 4 ret room_1 84 6045 18 [(3, .int 0), (2, .ref qm), (1, .ref (qs.getD 0 0)), (0, .ref b)] [] ((qm, .inr (3, [.int 0, .ref m1, .ref m2, .ref m3, .ref m4, .ref m5, .int 0, .int 0, .int 0, .int 0, .ref m6, .ref m7, .int 0, .ref m8, .int 0, .int 0, .ref m9, .int 0, .int 0, .int 0, .int 0, .ref m10, .ref m11, .ref m12, .ref m13, .ref m14, .int 0, .int 0, .int 0, .null, .ref m15, .ref m16, .int 0, .ref m17, .ref m18, .ref m19, .int 0, .ref m20, .ref m21, .int 0])) :: (W62 G qs ++ [(m1, zA G 10), (m2, zA G 10), (m3, zA G 10), (m4, zA G 10), (m5, zA G 10), (m6, zA G 7), (m7, zA G 25), (m8, zA G 25), (m9, zA G 96), (m10, zA G 49), (m11, zA G 49), (m12, zA G 147), (m13, zA G 44), (m14, zA G 44), (m15, zA G 352), (m16, zA G 44), (m17, zA G 25), (m18, zA G 2304), (m19, zA G 12), (m20, zA G 4), (m21, zA G 4)]))) :
    BW G (EB G b Ls xs) ZL lw_tbl RL cL_law 4 ret room_1 0 0 0 [(0, .ref b)] [] [] := by
  refine b_new2 (fs := df2) dL_law_0 (tbl _ kL_RL_7) (tbl _ kV_RX4) (tbl _ kN_RX4) (fun w h => tbl _ (uW2 w h)) df2_ok (Nat.le_of_ble_eq_true rfl) (Nat.le_of_ble_eq_true rfl) (fun q0 => ?_)
  refine b_dup dL_law_3 rfl ?_
  refine b_callI dL_law_4 (s4_init (G := G)) rfl rfl ⟨Nat.le_of_ble_eq_true rfl, Nat.le_of_ble_eq_true rfl⟩ (Nat.le_of_ble_eq_true rfl) ⟨Nat.le_of_ble_eq_true rfl, Nat.le_of_ble_eq_true rfl⟩ (gW tbl kC_X4_init) (tbl _ kM_RL_9_X4_init) (tbl _ kN_RX4) (tbl _ kI_X4_init) (by decide +kernel) (fun w1 hw1 => ?_)
  obtain ⟨qs, hqs, h0, rfl⟩ := hw1
  subst h0
  refine b_astore_n (i := 1) (L' := [(1, .ref (qs.getD 0 0)), (0, .ref b)]) dL_law_7 rfl (by decide) rfl ?_
  refine b_new3 (fs := df3) dL_law_8 (tbl _ kL_RL_10) (tbl _ kV_RX5) (tbl _ kN_RX5) (fun w h => tbl _ (uW3 w h)) df3_ok (Nat.le_of_ble_eq_true rfl) (Nat.le_of_ble_eq_true rfl) (fun qm => ?_)
  refine b_dup dL_law_11 rfl ?_
  refine b_callI dL_law_12 (s5_init (G := G)) rfl rfl ⟨Nat.le_of_ble_eq_true rfl, Nat.le_of_ble_eq_true rfl⟩ (Nat.le_of_ble_eq_true rfl) ⟨Nat.le_of_ble_eq_true rfl, Nat.le_of_ble_eq_true rfl⟩ (gW tbl kC_X5_init) (tbl _ kM_RL_12_X5_init) (tbl _ kN_RX5) (tbl _ kI_X5_init) (by decide +kernel) (fun w1 hw1 => ?_)
  obtain ⟨m1, m2, m3, m4, m5, m6, m7, m8, m9, m10, m11, m12, m13, m14, m15, m16, m17, m18, m19, m20, m21, rfl⟩ := hw1
  refine b_astore_n (i := 2) (L' := [(2, .ref qm), (1, .ref (qs.getD 0 0)), (0, .ref b)]) dL_law_15 rfl (by decide) rfl ?_
  refine b_iconst (v := 0) dL_law_16 (by decide) ?_
  refine b_istore_n (i := 3) (L' := [(3, .int 0), (2, .ref qm), (1, .ref (qs.getD 0 0)), (0, .ref b)]) dL_law_17 rfl (by decide) rfl ?_
  exact k qs qm m1 m2 m3 m4 m5 m6 m7 m8 m9 m10 m11 m12 m13 m14 m15 m16 m17 m18 m19 m20 m21
set_option maxHeartbeats 16000000 in
set_option maxRecDepth 100000 in
/-- THE LAW, from its entry, out of what the pure part says -/
theorem start_of {p : Program} {e : Env} {s : State} {m : MethodId} {below : List Frame} {meth : Method} {c : Code} (l : Launch) {b Ls : Nat} {xs : Nat → Int32} (pure_part : DL_c18 xs Ls (fun _ => True) FU 0 (fun _ _ => 0)) (C0 : lw_At p s m meth c b Ls xs) : W p l e room_1 s m #[Value.ref b] below meth c s.heap [] 0 0 (lw_Z below #[Value.ref b] s) (entryFrame m ([Value.ref b] : List Value).toArray 4) := by
  obtain ⟨hx, hb, hr, hml, hown, hts, hX, hbl, hlocks, hgv⟩ := id C0
  obtain ⟨c0, iS0, hKn0⟩ := u_known (C := RX0) (T := TX0) (N := 9) (n := 9) hts (fun w h => tbl _ (uW0 w h)) (hts _ (tbl _ kV_RX0))
  obtain ⟨c1, iS1, hKn1⟩ := u_known (C := RX2) (T := TX2) (N := 2) (n := 2) hts (fun w h => tbl _ (uW1 w h)) (hts _ (tbl _ kV_RX2))
  obtain ⟨c2, iS2, hKn2⟩ := u_known (C := RX4) (T := TX4) (N := 12) (n := 12) hts (fun w h => tbl _ (uW2 w h)) (hts _ (tbl _ kV_RX4))
  obtain ⟨c3, iS3, hKn3⟩ := u_known (C := RX5) (T := TX5) (N := 40) (n := 40) hts (fun w h => tbl _ (uW3 w h)) (hts _ (tbl _ kV_RX5))
  obtain ⟨dC, dI, hKc⟩ : ∃ (dC : Nat → ClassId) (dI : Nat → Nat → Nat), ∀ (k : Nat) (q : vw_C), vwCl[k]? = some q → u_Kn s q.1 q.2.1 q.2.2 (dC k) (dI k) := by
    refine ⟨fun k => if k = 0 then c0 else if k = 1 then c1 else if k = 2 then c2 else c3, fun k => if k = 0 then iS0 else if k = 1 then iS1 else if k = 2 then iS2 else iS3, ?_⟩
    intro k q hq
    match k, hq with
    | 0, hq => cases hq; exact hKn0
    | 1, hq => cases hq; exact hKn1
    | 2, hq => cases hq; exact hKn2
    | 3, hq => cases hq; exact hKn3
    | k + 4, hq => simp [vwCl] at hq
  obtain ⟨cI, kI, compI, hI1, hI2, hI3⟩ := Cond.arrayClass_spec (hts _ (tbl _ kA_int))
  obtain ⟨compB, cB, kB, hB1, hB2, hB3, hB4, hB5⟩ := Cond.arrayOver_spec (hts _ kAO)
  have hK : va_K (dC, dI) vwCl [(cI, .int), (cB, .object RX0)] s := by
    refine ⟨hKc, fun k q hk => ?_⟩
    match k, hk with
    | 0, hk => cases hk; exact ⟨fun n z => ⟨fun k h => (by cases h), kI, hI2, compI, hI3⟩, hI1⟩
    | 1, hk => cases hk; exact ⟨fun n z => ⟨fun k h => (by cases h), kB, hB3, compB, hB4⟩, kB, compB, hB3, hB4, hB1, hB5⟩
    | k + 2, hk => simp at hk
  have hl := lv_entry ([.ref b]) (n := 4) (Nat.le_of_ble_eq_true rfl)
  rw [lg_entry_eq]
  generalize hGe : (((dC, dI), cI, cB, (fun _ => 0), s.heap.size, l) : GG) = G
  have hEL : EB G b Ls xs #[Value.ref b] s meth := by subst hGe; exact ⟨rfl, hX, hbl, rfl⟩
  have key := law_head (G := G) (b := b) (Ls := Ls) (xs := xs) (fun qs qm m1 m2 m3 m4 m5 m6 m7 m8 m9 m10 m11 m12 m13 m14 m15 m16 m17 m18 m19 m20 m21 => law_bridge (sL_c18 (Q := fun _ => True) FU 0 _ pure_part))
  have := key p e s m #[Value.ref b] below meth c s.heap [] _ ⟨hx, hb, hr, hlocks, hml, hown, hts, ⟨by subst hGe; exact hK, gN2_of hts⟩, fun k q h => by simp at h, ⟨fun i j p q h => by simp at h, fun k q h => by simp at h⟩, va_S.rf, by subst hGe; exact Nat.le_refl _, hEL, hl⟩
  subst hGe
  exact this
