/-! PURE PART: numbers -/
theorem z_lit (n : Nat) : (OfNat.ofNat n : Int32) = nI n := rfl
theorem z_sh (j : Nat) (h : j < 31) : ((nI j &&& 31).toBitVec.smod 32).toNat = j := by
  have := (by decide +kernel : ∀ j, j < 31 → ((nI j &&& 31).toBitVec.smod 32).toNat = j)
  exact this j h
theorem z_shl (j : Nat) (h : j < 31) : (1 : Int32) <<< (nI j &&& 31) = nI (2 ^ j) := by
  have h2 : 1 * 2 ^ j < 2 ^ 32 := by
    have := Nat.pow_lt_pow_right (a := 2) (by decide) (show j < 32 by omega)
    omega
  have := pk_shlN (n := 1) (nI j &&& 31) j (z_sh j h) h2
  rw [Nat.one_mul] at this
  exact this
theorem z_shr {m : Nat} (hm : m < 2 ^ 31) (j : Nat) (h : j < 31) : nI m >>> (nI j &&& 31) = nI (m / 2 ^ j) := pk_shrN hm _ j (z_sh j h)
theorem z_and1 {m : Nat} (hm : m < 2 ^ 31) : nI m &&& 1 = nI (m % 2) := pk_andN (k := 1) (by omega) (by decide)
theorem z_tb {m : Nat} (hm : m < 2 ^ 31) (j : Nat) (h : j < 31) : (nI m >>> (nI j &&& 31)) &&& 1 = if m.testBit j then 1 else 0 := by
  rw [z_shr hm j h, z_and1 (Nat.lt_of_le_of_lt (Nat.div_le_self _ _) hm), Nat.testBit_eq_decide_div_mod_eq]
  rcases Nat.mod_two_eq_zero_or_one (m / 2 ^ j) with q | q <;> rw [q] <;> rfl
theorem z_or (a b : Nat) : nI a ||| nI b = nI (a ||| b) := by
  apply Int32.toBitVec_inj.mp
  show BitVec.ofNat 32 a ||| BitVec.ofNat 32 b = BitVec.ofNat 32 (a ||| b)
  exact (BitVec.ofNat_or).symm
theorem z_and (a b : Nat) : nI a &&& nI b = nI (a &&& b) := by
  apply Int32.toBitVec_inj.mp
  show BitVec.ofNat 32 a &&& BitVec.ofNat 32 b = BitVec.ofNat 32 (a &&& b)
  exact (BitVec.ofNat_and).symm
theorem z_eq {a b : Nat} (ha : a < 2 ^ 31) (hb : b < 2 ^ 31) : (nI a = nI b) = (a = b) := propext (nI_eq ha hb)
theorem z_le {a b : Nat} (ha : a < 2 ^ 31) (hb : b < 2 ^ 31) : (nI a ≤ nI b) = (a ≤ b) := propext (nI_leI ha hb)
theorem z_lt {a b : Nat} (ha : a < 2 ^ 31) (hb : b < 2 ^ 31) : (nI a < nI b) = (a < b) := propext (nI_ltI ha hb)
theorem z_neg {a : Nat} (ha : a < 2 ^ 31) : (nI a < 0) = False := eq_false (nI_pos ha)
theorem z_ix {a : Nat} (ha : a < 2 ^ 31) : ix (nI a) = a := nI_clamp ha
theorem z_xor (a b : Nat) : nI a ^^^ nI b = nI (a ^^^ b) := by
  apply Int32.toBitVec_inj.mp
  show BitVec.ofNat 32 a ^^^ BitVec.ofNat 32 b = BitVec.ofNat 32 (a ^^^ b)
  exact (BitVec.ofNat_xor).symm
/-- a bit taken out -/
def clr (m j : Nat) : Nat := m &&& (2 ^ j ^^^ (2 ^ 32 - 1))
theorem clr_bit {m : Nat} (hm : m < 2 ^ 31) (j i : Nat) : (clr m j).testBit i = (m.testBit i && decide (i ≠ j)) := by
  unfold clr
  rw [Nat.testBit_and, Nat.testBit_xor, Nat.testBit_two_pow, Nat.testBit_two_pow_sub_one]
  by_cases hi : m.testBit i = true
  · have h1 : i < 31 := by
      rcases Nat.lt_or_ge i 31 with q | q
      · exact q
      · rw [Nat.testBit_lt_two_pow (Nat.lt_of_lt_of_le hm (Nat.pow_le_pow_right (by decide) q))] at hi; cases hi
    rw [hi]
    by_cases e : j = i
    · subst e; simp; omega
    · have : i ≠ j := fun z => e z.symm
      simp [e, this]; omega
  · simp [hi]
theorem clr_lt {m : Nat} (n j : Nat) (hm : m < 2 ^ n) : clr m j < 2 ^ n := Nat.lt_of_le_of_lt Nat.and_le_left hm
theorem z_clear (m j : Nat) (h : j < 31) : nI m &&& (((1 : Int32) <<< (nI j &&& 31)) ^^^ (-1)) = nI (clr m j) := by
  rw [z_shl j h, show (-1 : Int32) = nI (2 ^ 32 - 1) from by decide +kernel, z_xor, z_and]
  rfl
/-- the bits of a set of numbers below n -/
def mk (s : Nat → Bool) : Nat → Nat
  | 0 => 0
  | n + 1 => mk s n + if s n then 2 ^ n else 0
theorem mk_lt (s : Nat → Bool) : ∀ n, mk s n < 2 ^ n
  | 0 => Nat.lt_succ_self 0
  | n + 1 => by
    have h := mk_lt s n
    have h2 : 2 ^ (n + 1) = 2 ^ n + 2 ^ n := by rw [Nat.pow_succ]; omega
    unfold mk
    split <;> omega
theorem mk_bit (s : Nat → Bool) : ∀ n i, (mk s n).testBit i = (decide (i < n) && s i)
  | 0, i => by simp [mk]
  | n + 1, i => by
    have h := mk_lt s n
    have ih := mk_bit s n i
    unfold mk
    by_cases hs : s n = true
    · rw [if_pos hs, Nat.add_comm]
      by_cases e : i = n
      · subst e
        rw [Nat.testBit_two_pow_add_eq, ih]
        simp [hs]
      · rcases Nat.lt_or_ge i n with q | q
        · rw [Nat.testBit_two_pow_add_gt q, ih]
          simp [q, Nat.lt_succ_of_lt q]
        · have h3 : ¬ i < n + 1 := by omega
          have h4 : 2 ^ n + mk s n < 2 ^ i := by
            have : 2 ^ (n + 1) ≤ 2 ^ i := Nat.pow_le_pow_right (by decide) (by omega)
            rw [Nat.pow_succ] at this
            omega
          rw [Nat.testBit_lt_two_pow h4]
          simp [h3]
    · rw [if_neg hs, Nat.add_zero, ih]
      by_cases e : i = n
      · subst e; simp; simpa using hs
      · have : (i < n) = (i < n + 1) := propext ⟨fun _ => by omega, fun _ => by omega⟩
        simp [this]
theorem bit_lt {m n : Nat} (h : ∀ i, m.testBit i = true → i < n) : m < 2 ^ n := by
  apply Nat.lt_pow_two_of_testBit
  intro i hi
  by_cases q : m.testBit i = true
  · have := h i q; omega
  · simpa using q
theorem mk_of {s : Nat → Bool} {m n : Nat} (h : ∀ i, m.testBit i = (decide (i < n) && s i)) : m = mk s n := by
  apply Nat.eq_of_testBit_eq
  intro i
  rw [h, mk_bit]
theorem mk_cong {s t : Nat → Bool} {n : Nat} (h : ∀ i, i < n → s i = t i) : mk s n = mk t n := by
  apply mk_of
  intro i
  rw [mk_bit]
  by_cases q : i < n
  · simp [q, h i q]
  · simp [q]
theorem z_iflt {α : Type} {a b : Nat} {x y : α} (ha : a < 2 ^ 31) (hb : b < 2 ^ 31) : (if nI a < nI b then x else y) = if a < b then x else y := by simp only [z_lt ha hb]
theorem z_ifle {α : Type} {a b : Nat} {x y : α} (ha : a < 2 ^ 31) (hb : b < 2 ^ 31) : (if nI a ≤ nI b then x else y) = if a ≤ b then x else y := by simp only [z_le ha hb]
theorem z_min {a b : Nat} (ha : a < 2 ^ 31) (hb : b < 2 ^ 31) : (if nI a < nI b then nI a else nI b) = nI (if a < b then a else b) := by rw [z_iflt ha hb]; split <;> rfl
theorem z_max {a b : Nat} (ha : a < 2 ^ 31) (hb : b < 2 ^ 31) : (if nI a < nI b then nI b else nI a) = nI (if a < b then b else a) := by rw [z_iflt ha hb]; split <;> rfl
