/-! PURE PART: a row carried back -/
def RK (t i : Nat) (M0 M : MM) : Prop := M 62 28 = nI 0 ∧ M 62 29 = nI t ∧ M 62 27 = nI i ∧ (∀ x, M t x = M0 t x) ∧ (∀ p j, (p = 62 → j ≠ 0 ∧ j ≠ 6 ∧ j ≠ 7 ∧ j ≠ 8 ∧ j ≠ 27 ∧ j ≠ 28 ∧ j ≠ 29) → (p < 63 ∨ 67 < p) → M p j = M0 p j) ∧
  (0 < i → M 62 0 = M0 t 0) ∧ (1 < i → M 62 6 = M0 t 1) ∧ (2 < i → M 62 7 = M0 t 2) ∧ (3 < i → M 62 8 = M0 t 3) ∧ ∀ w r, r < 5 → 4 + 5 * w + r < i → M (63 + r) w = M0 t (4 + 5 * w + r)
/-- a number comes out of the row: all but the state's own slot is as it must be -/
theorem rk_read {t i : Nat} {v : Int32} {M0 M : MM} {Q : Int32 → MM → Prop} (ht : isT t) (hi : i < 44) (h : RK t i M0 M) (k : Q (M0 t i) (up M 62 27 (nI (i + 1)))) : D5_carry v M Q := by
  obtain ⟨h28, h29, h27, hrow, -⟩ := h
  obtain ⟨t1, t2, t3, t4⟩ := isT_62 ht
  unfold D5_carry
  rw [h28]
  refine ⟨fun _ => ?_, fun z => absurd rfl z⟩
  unfold D5_carry_c17
  have e29 : up M 62 27 (nI (i + 1)) 62 29 = nI t := by rw [up_k (by decide)]; exact h29
  show ¬ up M 62 27 (M 62 27 + 1) 62 29 = 0 ∧ ib (ix (up M 62 27 (M 62 27 + 1) 62 29)) (up M 62 27 (M 62 27 + 1) 62 27 - 1) ∧ Q (up M 62 27 (M 62 27 + 1) (ix (up M 62 27 (M 62 27 + 1) 62 29)) (ix (up M 62 27 (M 62 27 + 1) 62 27 - 1))) (up M 62 27 (M 62 27 + 1))
  rw [h27, nI_1, e29, up_s, nI_pred, z_ix t3, z_ix (show i < 2 ^ 31 by omega), up_p t1, hrow]
  exact ⟨z_ne0 t4 t3, isT_ib ht hi, k⟩
theorem rk_num {t i j : Nat} {M0 M : MM} (ht : isT t) (h : RK t i M0 M) (hij : (i = 0 ∧ j = 0) ∨ (i = 1 ∧ j = 6) ∨ (i = 2 ∧ j = 7) ∨ (i = 3 ∧ j = 8)) : RK t (i + 1) M0 (up (up M 62 27 (nI (i + 1))) 62 j (M0 t i)) := by
  obtain ⟨h28, h29, h27, hrow, ho, r0, r1, r2, r3, rw_⟩ := h
  obtain ⟨t1, t2, t3, t4⟩ := isT_62 ht
  have hj : j ≠ 27 ∧ j ≠ 28 ∧ j ≠ 29 := by omega
  refine ⟨?_, ?_, ?_, fun x => ?_, fun p q a b => ?_, fun _ => ?_, fun _ => ?_, fun _ => ?_, fun _ => ?_, fun w r hr hw => by omega⟩
  · rw [up_k (fun e => hj.2.1 e.symm), up_k (by decide)]; exact h28
  · rw [up_k (fun e => hj.2.2 e.symm), up_k (by decide)]; exact h29
  · rw [up_k (fun e => hj.1 e.symm), up_s]
  · rw [up_p t1, up_p t1]; exact hrow x
  · by_cases y : p = 62
    · subst y
      have := a rfl
      rw [up_k (by omega), up_k (by omega)]; exact ho _ _ a b
    · rw [up_p y, up_p y]; exact ho _ _ a b
  · by_cases y : j = 0
    · subst y; rw [up_s, show i = 0 by omega]
    · rw [up_k (fun e => y e.symm), up_k (by decide)]; exact r0 (by omega)
  · by_cases y : j = 6
    · subst y; rw [up_s, show i = 1 by omega]
    · rw [up_k (fun e => y e.symm), up_k (by decide)]; exact r1 (by omega)
  · by_cases y : j = 7
    · subst y; rw [up_s, show i = 2 by omega]
    · rw [up_k (fun e => y e.symm), up_k (by decide)]; exact r2 (by omega)
  · by_cases y : j = 8
    · subst y; rw [up_s, show i = 3 by omega]
    · rw [up_k (fun e => y e.symm), up_k (by decide)]; exact r3 (by omega)
theorem rk_cell {t w r : Nat} {M0 M : MM} (ht : isT t) (h : RK t (4 + 5 * w + r) M0 M) (hr : r < 5) : RK t (4 + 5 * w + r + 1) M0 (up (up M 62 27 (nI (4 + 5 * w + r + 1))) (63 + r) w (M0 t (4 + 5 * w + r))) := by
  obtain ⟨h28, h29, h27, hrow, ho, r0, r1, r2, r3, rw_⟩ := h
  obtain ⟨t1, t2, t3, t4⟩ := isT_62 ht
  have hn : (62 : Nat) ≠ 63 + r := by omega
  refine ⟨?_, ?_, ?_, fun x => ?_, fun p q a b => ?_, fun _ => ?_, fun _ => ?_, fun _ => ?_, fun _ => ?_, fun w' r' hr' hw' => ?_⟩
  · rw [up_p hn, up_k (by decide)]; exact h28
  · rw [up_p hn, up_k (by decide)]; exact h29
  · rw [up_p hn, up_s]
  · rw [up_p (by omega), up_p t1]; exact hrow x
  · rw [up_p (by omega)]
    by_cases y : p = 62
    · subst y
      have := a rfl
      rw [up_k (by omega)]; exact ho _ _ a b
    · rw [up_p y]; exact ho _ _ a b
  · rw [up_p hn, up_k (by decide)]; exact r0 (by omega)
  · rw [up_p hn, up_k (by decide)]; exact r1 (by omega)
  · rw [up_p hn, up_k (by decide)]; exact r2 (by omega)
  · rw [up_p hn, up_k (by decide)]; exact r3 (by omega)
  · by_cases y : r' = r
    · subst y
      by_cases z : w' = w
      · subst z; rw [up_s]
      · rw [up_k z, up_p (by omega)]; exact rw_ w' r' hr' (by omega)
    · rw [up_p (by omega), up_p (by omega)]; exact rw_ w' r' hr' (by omega)
theorem rk_loop {t : Nat} {M0 : MM} {Q : MM → Prop} (ht : isT t) (k : ∀ M', RK t 44 M0 M' → Q M') :
    ∀ (n w : Nat) (M : MM), w ≤ 8 → 8 - w < n → RK t (4 + 5 * w) M0 M → D5_carryAll_c65 Q n (nI w) M := by
  intro n
  induction n with
  | zero => intro w M h1 h2; omega
  | succ n ih =>
    intro w M h1 h2 h
    unfold D5_carryAll_c65
    rw [show (8 : Int32) = nI 8 from rfl, z_le (by decide) (by omega)]
    refine ⟨fun z => ?_, fun z => ?_⟩
    · have e : w = 8 := by omega
      subst e
      exact k M h
    · have hw : w < 8 := by omega
      have hib : ∀ p, 63 ≤ p → p ≤ 67 → ib p (nI w) := by
        intro p a b
        rcases (show p = 63 ∨ p = 64 ∨ p = 65 ∨ p = 66 ∨ p = 67 by omega) with rfl | rfl | rfl | rfl | rfl <;> exact ibc ⟨by decide, rfl⟩ rfl (show w < 10 by omega) (by decide)
      refine ⟨hib 63 (by decide) (by decide), ?_⟩
      rw [z_ix (by omega)]
      refine rk_read ht (by omega) h ⟨hib 63 (by decide) (by decide), hib 64 (by decide) (by decide), ?_⟩
      have k1 := rk_cell (r := 0) ht h (by decide)
      refine rk_read ht (by omega) k1 ⟨hib 64 (by decide) (by decide), hib 65 (by decide) (by decide), ?_⟩
      have k2 := rk_cell (r := 1) ht k1 (by decide)
      refine rk_read ht (by omega) k2 ⟨hib 65 (by decide) (by decide), hib 66 (by decide) (by decide), ?_⟩
      have k3 := rk_cell (r := 2) ht k2 (by decide)
      refine rk_read ht (by omega) k3 ⟨hib 66 (by decide) (by decide), hib 67 (by decide) (by decide), ?_⟩
      have k4 := rk_cell (r := 3) ht k3 (by decide)
      refine rk_read ht (by omega) k4 ⟨hib 67 (by decide) (by decide), ?_⟩
      have k5 := rk_cell (r := 4) ht k4 (by decide)
      rw [nI_1]
      exact ih (w + 1) _ (by omega) (by omega) (by rw [show 4 + 5 * (w + 1) = 4 + 5 * w + 4 + 1 by omega]; exact k5)
theorem p5_put {t : Nat} {M : MM} {Q : MM → Prop} (ht : isT t) (k : ∀ M', RK t 44 M M' → Q M') : D5_carryAll t 0 M Q := by
  obtain ⟨t1, t2, t3, t4⟩ := isT_62 ht
  unfold D5_carryAll
  refine ⟨⟨z_ne0 t4 t3, z_ix t3⟩, Or.inl rfl, ?_⟩
  have h0 : RK t 0 M (up (up (up M 62 29 (nI t)) 62 28 0) 62 27 0) := by
    refine ⟨?_, ?_, up_s, fun x => ?_, fun p j a b => ?_, fun z => by omega, fun z => by omega, fun z => by omega, fun z => by omega, fun w r hr hw => by omega⟩
    · rw [up_k (by decide), up_s]; rfl
    · rw [up_k (by decide), up_k (by decide), up_s]
    · rw [up_p t1, up_p t1, up_p t1]
    · by_cases y : p = 62
      · subst y
        have := a rfl
        rw [up_k (by omega), up_k (by omega), up_k (by omega)]
      · rw [up_p y, up_p y, up_p y]
  refine rk_read ht (by decide) h0 ?_
  have k1 := rk_num (j := 0) ht h0 (by omega)
  refine rk_read ht (by decide) k1 ?_
  have k2 := rk_num (j := 6) ht k1 (by omega)
  refine rk_read ht (by decide) k2 ?_
  have k3 := rk_num (j := 7) ht k2 (by omega)
  refine rk_read ht (by decide) k3 ?_
  have k4 := rk_num (j := 8) ht k3 (by omega)
  exact rk_loop ht k FU 0 _ (by decide) (by decide) k4
/-- a row that holds a beach -/
def RT (B : BV) (M : MM) (t : Nat) : Prop := M t 0 = nI (bN B) ∧ M t 1 = nI (bP B) ∧ M t 2 = nI (bO B) ∧ M t 3 = nI (bH B) ∧ ∀ j, j < bN B → M t (4 + 5 * j) = nI (bK B j) ∧ M t (5 + 5 * j) = nI (bF B j) ∧ M t (6 + 5 * j) = nI (bC B j) ∧ M t (7 + 5 * j) = nI (bW B j) ∧ M t (8 + 5 * j) = nI (!(bS B j)).toNat
/-- what thinking leaves as it was: all but the state, the thinker's own slots, the row t -/
def FrT (t : Nat) (M0 M : MM) : Prop := ∀ p j, p ≠ t → (p = 62 → j ≠ 0 ∧ j ≠ 6 ∧ j ≠ 7 ∧ j ≠ 8 ∧ j ≠ 27 ∧ j ≠ 28 ∧ j ≠ 29) → (p < 63 ∨ 67 < p) → M p j = M0 p j
theorem p5_takeB {t H : Nat} {B : BV} {M : MM} {Q : MM → Prop} (ht : isT t) (hw : WF 8 H B) (hR : RM B M) (k : ∀ M', RM B M' → RT B M' t → FrT t M M' → (∀ p j, p ≠ t → (p = 62 → j ≠ 27 ∧ j ≠ 28 ∧ j ≠ 29) → M' p j = M p j) → Q M') : D5_carryAll t 1 M Q := by
  obtain ⟨t1, t2, t3, t4⟩ := isT_62 ht
  have hne : ¬ (62 : Nat) = t := fun e => t1 e.symm
  refine p5_take ht (fun M' h => ?_)
  obtain ⟨h28, h29, h27, hs, r0, r1, r2, r3, rw_⟩ := h
  obtain ⟨m0, m6, m7, m8, mj⟩ := hR
  have hn := hw.1
  refine k M' ⟨by rw [hs 62 0 hne (fun _ => by decide)]; exact m0, by rw [hs 62 6 hne (fun _ => by decide)]; exact m6, by rw [hs 62 7 hne (fun _ => by decide)]; exact m7, by rw [hs 62 8 hne (fun _ => by decide)]; exact m8, fun j hj => ?_⟩ ⟨by rw [r0 (by decide)]; exact m0, by rw [r1 (by decide)]; exact m6, by rw [r2 (by decide)]; exact m7, by rw [r3 (by decide)]; exact m8, fun j hj => ?_⟩ (fun p j a b c => hs p j a (fun e => by have := b e; omega)) hs
  · rw [hs 63 j (by omega) (fun e => by omega), hs 64 j (by omega) (fun e => by omega), hs 65 j (by omega) (fun e => by omega), hs 66 j (by omega) (fun e => by omega), hs 67 j (by omega) (fun e => by omega)]
    exact mj j hj
  · obtain ⟨a, b, c, d, e⟩ := mj j hj
    have x0 := rw_ j 0 (by decide) (by omega)
    have x1 := rw_ j 1 (by decide) (by omega)
    have x2 := rw_ j 2 (by decide) (by omega)
    have x3 := rw_ j 3 (by decide) (by omega)
    have x4 := rw_ j 4 (by decide) (by omega)
    rw [show 5 + 5 * j = 4 + 5 * j + 1 by omega, show 6 + 5 * j = 4 + 5 * j + 2 by omega, show 7 + 5 * j = 4 + 5 * j + 3 by omega, show 8 + 5 * j = 4 + 5 * j + 4 by omega]
    exact ⟨x0.trans a, x1.trans b, x2.trans c, x3.trans d, x4.trans e⟩
theorem p5_putB {t H : Nat} {B : BV} {M : MM} {Q : MM → Prop} (ht : isT t) (hw : WF 8 H B) (hR : RT B M t) (k : ∀ M', RM B M' → RT B M' t → FrT t M M' → Q M') : D5_carryAll t 0 M Q := by
  obtain ⟨t1, t2, t3, t4⟩ := isT_62 ht
  refine p5_put ht (fun M' h => ?_)
  obtain ⟨h28, h29, h27, hrow, ho, r0, r1, r2, r3, rw_⟩ := h
  obtain ⟨m0, m6, m7, m8, mj⟩ := hR
  have hn := hw.1
  refine k M' ⟨by rw [r0 (by decide)]; exact m0, by rw [r1 (by decide)]; exact m6, by rw [r2 (by decide)]; exact m7, by rw [r3 (by decide)]; exact m8, fun j hj => ?_⟩ ⟨by rw [hrow]; exact m0, by rw [hrow]; exact m6, by rw [hrow]; exact m7, by rw [hrow]; exact m8, fun j hj => ?_⟩ (fun p j a b c => ho p j b c)
  · obtain ⟨a, b, c, d, e⟩ := mj j hj
    have x0 := rw_ j 0 (by decide) (by omega)
    have x1 := rw_ j 1 (by decide) (by omega)
    have x2 := rw_ j 2 (by decide) (by omega)
    have x3 := rw_ j 3 (by decide) (by omega)
    have x4 := rw_ j 4 (by decide) (by omega)
    rw [show 4 + 5 * j + 1 = 5 + 5 * j by omega] at x1
    rw [show 4 + 5 * j + 2 = 6 + 5 * j by omega] at x2
    rw [show 4 + 5 * j + 3 = 7 + 5 * j by omega] at x3
    rw [show 4 + 5 * j + 4 = 8 + 5 * j by omega] at x4
    exact ⟨x0.trans a, x1.trans b, x2.trans c, x3.trans d, x4.trans e⟩
  · rw [hrow, hrow, hrow, hrow, hrow]; exact mj j hj
theorem p5_think {H : Nat} {B : BV} {M : MM} {Q : MM → Prop} (hw : WF 8 H B) (hR : RM B M) (k : ∀ M', RM B M' → RT B M' 75 → FrT 75 M M' → Q M') : D5_think M Q :=
  p5_takeB (Or.inl rfl) hw hR (fun M' a b c _ => k M' a b c)
theorem p5_again {H : Nat} {B : BV} {M : MM} {Q : MM → Prop} (hw : WF 8 H B) (hR : RT B M 75) (k : ∀ M', RM B M' → RT B M' 75 → FrT 75 M M' → Q M') : D5_again M Q :=
  p5_putB (Or.inl rfl) hw hR k
