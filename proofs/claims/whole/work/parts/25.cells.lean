/-! PURE PART: cells that are BESIDE each other -/
/-- the cell beside c that way; none beyond the beach -/
def nbw (c way : Nat) : Option Nat := match way with
  | 0 => if 5 ≤ c then some (c - 5) else none
  | 1 => if c % 5 < 4 then some (c + 1) else none
  | 2 => if c < 20 then some (c + 5) else none
  | _ => if 0 < c % 5 then some (c - 1) else none
/-- some cell beside c is in the set -/
def nbIn (W c : Nat) : Bool := (List.range 4).any (fun way => match nbw c way with | some d => W.testBit d | none => false)
theorem z_m2 (x i : Nat) : (x * 2).testBit i = (decide (1 ≤ i) && x.testBit (i - 1)) := by
  rw [show x * 2 = x <<< 1 from (by rw [Nat.shiftLeft_eq])]
  rw [Nat.testBit_shiftLeft]
theorem z_m32 (x i : Nat) : (x * 32).testBit i = (decide (5 ≤ i) && x.testBit (i - 5)) := by
  rw [show x * 32 = x <<< 5 from (by rw [Nat.shiftLeft_eq])]
  rw [Nat.testBit_shiftLeft]
theorem z_d2 (x i : Nat) : (x / 2).testBit i = x.testBit (i + 1) := by
  rw [show x / 2 = x >>> 1 from (by rw [Nat.shiftRight_eq_div_pow])]
  rw [Nat.testBit_shiftRight, Nat.add_comm]
theorem z_d32 (x i : Nat) : (x / 32).testBit i = x.testBit (i + 5) := by
  rw [show x / 32 = x >>> 5 from (by rw [Nat.shiftRight_eq_div_pow])]
  rw [Nat.testBit_shiftRight, Nat.add_comm]
theorem besM_bit {W c : Nat} (hc : c < 25) (hW : W < 2 ^ 25) : (besM W).testBit c = nbIn W c := by
  have h25 : ∀ d, 25 ≤ d → W.testBit d = false := fun d hd => Nat.testBit_lt_two_pow (Nat.lt_of_lt_of_le hW (Nat.pow_le_pow_right (by decide) hd))
  unfold besM nbIn
  rw [Nat.testBit_and, Nat.testBit_or, Nat.testBit_or, Nat.testBit_or, z_m2, z_d2, z_m32, z_d32, Nat.testBit_and, Nat.testBit_and]
  have hall := (by decide +kernel : ∀ c, c < 25 → Nat.testBit 33554431 c = true ∧ (1 ≤ c → Nat.testBit 16236015 (c - 1) = decide (0 < c % 5)) ∧ Nat.testBit 32472030 (c + 1) = decide (c % 5 < 4 ∧ c < 24) ∧ (c % 5 < 4 → c = 24 → False)) c hc
  obtain ⟨e1, e2, e3, e4⟩ := hall
  rw [e1, e3, Bool.and_true]
  simp only [List.range, List.range.loop, List.any_cons, List.any_nil, Bool.or_false, nbw]
  by_cases h0 : 1 ≤ c
  · rw [e2 h0]
    by_cases a1 : 0 < c % 5 <;> by_cases a2 : c % 5 < 4 <;> by_cases a3 : 5 ≤ c <;> by_cases a4 : c < 20 <;>
      simp only [a1, a2, a3, a4, h0, if_true, if_false, decide_true, decide_false, Bool.true_and, Bool.false_and, Bool.and_true, Bool.and_false, Bool.or_false, Bool.false_or, true_and, false_and] <;>
      (try rw [h25 (c + 5) (by omega)]) <;>
      (try have h24 : c < 24 := by omega) <;>
      simp_all [Bool.or_comm, Bool.or_left_comm, Bool.or_assoc]
  · have : c = 0 := by omega
    subst this
    simp [Bool.or_comm]
