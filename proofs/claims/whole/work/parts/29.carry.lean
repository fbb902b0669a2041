/-! PURE PART: the model's rows of states -/
/-- a row that a state can be carried to -/
def isT (t : Nat) : Prop := t = 75 ∨ t = 76 ∨ t = 78
theorem isT_ib {t i : Nat} (ht : isT t) (hi : i < 44) : ib t (nI i) := by
  rcases ht with rfl | rfl | rfl <;> exact ibc ⟨by decide, rfl⟩ rfl hi (by decide)
theorem isT_62 {t : Nat} (ht : isT t) : t ≠ 62 ∧ 67 < t ∧ t < 2 ^ 31 ∧ 0 < t := by rcases ht with rfl | rfl | rfl <;> decide
/-- state to row, before place i -/
def TK (t i : Nat) (M0 M : MM) : Prop := M 62 28 = nI 1 ∧ M 62 29 = nI t ∧ M 62 27 = nI i ∧ (∀ p j, p ≠ t → (p = 62 → j ≠ 27 ∧ j ≠ 28 ∧ j ≠ 29) → M p j = M0 p j) ∧
  (0 < i → M t 0 = M0 62 0) ∧ (1 < i → M t 1 = M0 62 6) ∧ (2 < i → M t 2 = M0 62 7) ∧ (3 < i → M t 3 = M0 62 8) ∧ ∀ w r, r < 5 → 4 + 5 * w + r < i → M t (4 + 5 * w + r) = M0 (63 + r) w
theorem z_ne0 {t : Nat} (h0 : 0 < t) (h : t < 2 ^ 31) : ¬ nI t = 0 := nI_ne0 h0 h
theorem tk_step {t i : Nat} {v : Int32} {M0 M : MM} {Q : Int32 → MM → Prop} (ht : isT t) (hi : i < 44) (h : TK t i M0 M)
    (hv : (i = 0 → v = M0 62 0) ∧ (i = 1 → v = M0 62 6) ∧ (i = 2 → v = M0 62 7) ∧ (i = 3 → v = M0 62 8) ∧ ∀ w r, r < 5 → i = 4 + 5 * w + r → v = M0 (63 + r) w)
    (k : ∀ M', TK t (i + 1) M0 M' → Q v M') : D5_carry v M Q := by
  obtain ⟨h28, h29, h27, hs, r0, r1, r2, r3, rw_⟩ := h
  obtain ⟨t1, t2, t3, t4⟩ := isT_62 ht
  have hne : ¬ (62 : Nat) = t := fun e => t1 e.symm
  unfold D5_carry
  rw [h28, h29, h27]
  refine ⟨fun z => absurd z (by decide), fun _ => ⟨z_ne0 t4 t3, ?_⟩⟩
  rw [z_ix t3]
  refine ⟨isT_ib ht hi, ?_⟩
  rw [z_ix (show i < 2 ^ 31 by omega)]
  show D5_carry_c17 Q (up M t i v)
  unfold D5_carry_c17
  have e27 : up M t i v 62 27 = nI i := by rw [up_p hne]; exact h27
  have e29 : up (up M t i v) 62 27 (nI (i + 1)) 62 29 = nI t := by rw [up_k (by decide), up_p hne]; exact h29
  show ¬ up (up M t i v) 62 27 (up M t i v 62 27 + 1) 62 29 = 0 ∧ ib (ix (up (up M t i v) 62 27 (up M t i v 62 27 + 1) 62 29)) (up (up M t i v) 62 27 (up M t i v 62 27 + 1) 62 27 - 1) ∧ Q (up (up M t i v) 62 27 (up M t i v 62 27 + 1) (ix (up (up M t i v) 62 27 (up M t i v 62 27 + 1) 62 29)) (ix (up (up M t i v) 62 27 (up M t i v 62 27 + 1) 62 27 - 1))) (up (up M t i v) 62 27 (up M t i v 62 27 + 1))
  rw [e27, nI_1, e29, up_s, nI_pred, z_ix t3, z_ix (show i < 2 ^ 31 by omega), up_p t1, up_s]
  refine ⟨z_ne0 t4 t3, isT_ib ht hi, k _ ⟨?_, e29, up_s, fun p j hp hj => ?_, fun _ => ?_, fun _ => ?_, fun _ => ?_, fun _ => ?_, fun w r hr hw => ?_⟩⟩
  · rw [up_k (by decide), up_p hne]; exact h28
  · by_cases y : p = 62
    · subst y
      rw [up_k (hj rfl).1, up_p hp]; exact hs _ _ hp hj
    · rw [up_p y, up_p hp]; exact hs _ _ hp hj
  · rw [up_p t1]
    by_cases y : i = 0
    · subst y; rw [up_s]; exact hv.1 rfl
    · rw [up_k (fun e => y e.symm)]; exact r0 (by omega)
  · rw [up_p t1]
    by_cases y : i = 1
    · subst y; rw [up_s]; exact hv.2.1 rfl
    · rw [up_k (fun e => y e.symm)]; exact r1 (by omega)
  · rw [up_p t1]
    by_cases y : i = 2
    · subst y; rw [up_s]; exact hv.2.2.1 rfl
    · rw [up_k (fun e => y e.symm)]; exact r2 (by omega)
  · rw [up_p t1]
    by_cases y : i = 3
    · subst y; rw [up_s]; exact hv.2.2.2.1 rfl
    · rw [up_k (fun e => y e.symm)]; exact r3 (by omega)
  · rw [up_p t1]
    by_cases y : i = 4 + 5 * w + r
    · subst y; rw [up_s]; exact hv.2.2.2.2 w r hr rfl
    · rw [up_k (fun e => y e.symm)]; exact rw_ w r hr (by omega)
/-- what is written back is what was there -/
theorem tk_back {t i p j : Nat} {M0 M : MM} {v : Int32} (h : TK t i M0 M) (hv : v = M0 p j) (hp : p ≠ t) (hj : p = 62 → j ≠ 27 ∧ j ≠ 28 ∧ j ≠ 29) : TK t i M0 (up M p j v) := by
  obtain ⟨h28, h29, h27, hs, r0, r1, r2, r3, rw_⟩ := h
  have q : ∀ p' j', (p' = 62 → (j' = 27 ∨ j' = 28 ∨ j' = 29)) → p' = 62 → up M p j v p' j' = M p' j' := by
    intro p' j' h1 h2
    subst h2
    by_cases y : (62 : Nat) = p
    · subst y
      have := hj rfl
      rw [up_k (by rcases h1 rfl with e | e | e <;> omega)]
    · rw [up_p y]
  have qt : up M p j v t = M t := up_p (fun e => hp e.symm)
  refine ⟨by rw [q 62 28 (fun _ => by omega) rfl]; exact h28, by rw [q 62 29 (fun _ => by omega) rfl]; exact h29, by rw [q 62 27 (fun _ => by omega) rfl]; exact h27, fun p' j' a b => ?_, by rw [qt]; exact r0, by rw [qt]; exact r1, by rw [qt]; exact r2, by rw [qt]; exact r3, by rw [qt]; exact rw_⟩
  by_cases y : p' = p
  · subst y
    by_cases z : j' = j
    · subst z; rw [up_s]; exact hv
    · rw [up_k z]; exact hs _ _ a b
  · rw [up_p y]; exact hs _ _ a b
theorem tk_loop {t : Nat} {M0 : MM} {Q : MM → Prop} (ht : isT t) (k : ∀ M', TK t 44 M0 M' → Q M') :
    ∀ (n w : Nat) (M : MM), w ≤ 8 → 8 - w < n → TK t (4 + 5 * w) M0 M → D5_carryAll_c65 Q n (nI w) M := by
  obtain ⟨t1, t2, t3, t4⟩ := isT_62 ht
  intro n
  induction n with
  | zero => intro w M h1 h2; omega
  | succ n ih =>
    intro w M h1 h2 h
    unfold D5_carryAll_c65
    rw [show (8 : Int32) = nI 8 from rfl, z_le (by decide) (by omega)]
    refine ⟨fun z => ?_, fun z => ?_⟩
    · have e : w = 8 := by omega
      subst e
      exact k M h
    · have hw : w < 8 := by omega
      have hib : ∀ p, 63 ≤ p → p ≤ 67 → ib p (nI w) := by
        intro p a b
        rcases (show p = 63 ∨ p = 64 ∨ p = 65 ∨ p = 66 ∨ p = 67 by omega) with rfl | rfl | rfl | rfl | rfl <;> exact ibc ⟨by decide, rfl⟩ rfl (show w < 10 by omega) (by decide)
      have val : ∀ (r : Nat) (M1 : MM), r < 5 → TK t (4 + 5 * w + r) M0 M1 → M1 (63 + r) w = M0 (63 + r) w := fun r M1 hr h1 => h1.2.2.2.1 _ _ (by omega) (fun e => by omega)
      have one : ∀ (r : Nat) (M1 : MM) (Q1 : Int32 → MM → Prop), r < 5 → TK t (4 + 5 * w + r) M0 M1 → (∀ M2, TK t (4 + 5 * w + r + 1) M0 (up M2 (63 + r) w (M0 (63 + r) w)) → Q1 (M0 (63 + r) w) M2) → D5_carry (M1 (63 + r) w) M1 Q1 := by
        intro r M1 Q1 hr h1 kk
        rw [val r M1 hr h1]
        refine tk_step ht (by omega) h1 ⟨fun e => by omega, fun e => by omega, fun e => by omega, fun e => by omega, fun w' r' hr' e => ?_⟩ (fun M2 h2 => kk M2 (tk_back h2 rfl (by omega) (fun e => by omega)))
        have e1 : w' = w := by omega
        have e2 : r' = r := by omega
        rw [e1, e2]
      refine ⟨hib 63 (by decide) (by decide), ?_⟩
      rw [z_ix (by omega)]
      refine one 0 M _ (by decide) h (fun M1 k1 => ⟨hib 63 (by decide) (by decide), hib 64 (by decide) (by decide), ?_⟩)
      refine one 1 _ _ (by decide) k1 (fun M2 k2 => ⟨hib 64 (by decide) (by decide), hib 65 (by decide) (by decide), ?_⟩)
      refine one 2 _ _ (by decide) k2 (fun M3 k3 => ⟨hib 65 (by decide) (by decide), hib 66 (by decide) (by decide), ?_⟩)
      refine one 3 _ _ (by decide) k3 (fun M4 k4 => ⟨hib 66 (by decide) (by decide), hib 67 (by decide) (by decide), ?_⟩)
      refine one 4 _ _ (by decide) k4 (fun M5 k5 => ⟨hib 67 (by decide) (by decide), ?_⟩)
      show D5_carryAll_c65 Q n (nI w + 1) (up M5 67 w (M0 67 w))
      rw [nI_1]
      exact ih (w + 1) _ (by omega) (by omega) (by rw [show 4 + 5 * (w + 1) = 4 + 5 * w + 4 + 1 by omega]; exact k5)
theorem p5_take {t : Nat} {M : MM} {Q : MM → Prop} (ht : isT t) (k : ∀ M', TK t 44 M M' → Q M') : D5_carryAll t 1 M Q := by
  obtain ⟨t1, t2, t3, t4⟩ := isT_62 ht
  have hne : ¬ (62 : Nat) = t := fun e => t1 e.symm
  unfold D5_carryAll
  refine ⟨⟨z_ne0 t4 t3, z_ix t3⟩, Or.inr rfl, ?_⟩
  have h0 : TK t 0 M (up (up (up M 62 29 (nI t)) 62 28 1) 62 27 0) := by
    refine ⟨?_, ?_, up_s, fun p j hp hj => ?_, fun z => by omega, fun z => by omega, fun z => by omega, fun z => by omega, fun w r hr hw => by omega⟩
    · rw [up_k (by decide), up_s]; rfl
    · rw [up_k (by decide), up_k (by decide), up_s]
    · by_cases y : p = 62
      · subst y
        obtain ⟨a, b, c⟩ := hj rfl
        rw [up_k a, up_k b, up_k c]
      · rw [up_p y, up_p y, up_p y]
  have sc : ∀ (i j : Nat) (M1 : MM), TK t i M M1 → j ≠ 27 → j ≠ 28 → j ≠ 29 → M1 62 j = M 62 j := fun i j M1 h a b c => h.2.2.2.1 62 j hne (fun _ => ⟨a, b, c⟩)
  have one : ∀ (i j : Nat) (M1 : MM) (Q1 : Int32 → MM → Prop), ((i = 0 ∧ j = 0) ∨ (i = 1 ∧ j = 6) ∨ (i = 2 ∧ j = 7) ∨ (i = 3 ∧ j = 8)) → TK t i M M1 → (∀ M2, TK t (i + 1) M (up M2 62 j (M 62 j)) → Q1 (M 62 j) M2) → D5_carry (M1 62 j) M1 Q1 := by
    intro i j M1 Q1 hij h1 kk
    have hj : j ≠ 27 ∧ j ≠ 28 ∧ j ≠ 29 := by omega
    rw [sc i j M1 h1 hj.1 hj.2.1 hj.2.2]
    refine tk_step ht (by omega) h1 ⟨fun e => ?_, fun e => ?_, fun e => ?_, fun e => ?_, fun w r hr e => by omega⟩ (fun M2 h2 => kk M2 (tk_back h2 rfl hne (fun _ => hj)))
    · rw [show j = 0 by omega]
    · rw [show j = 6 by omega]
    · rw [show j = 7 by omega]
    · rw [show j = 8 by omega]
  refine one 0 0 _ _ (by omega) h0 (fun M1 k1 => ?_)
  refine one 1 6 _ _ (by omega) k1 (fun M2 k2 => ?_)
  refine one 2 7 _ _ (by omega) k2 (fun M3 k3 => ?_)
  refine one 3 8 _ _ (by omega) k3 (fun M4 k4 => ?_)
  exact tk_loop ht k FU 0 _ (by decide) (by decide) k4
