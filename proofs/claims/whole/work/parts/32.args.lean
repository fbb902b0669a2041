/-! PURE PART: numbers from outside -/
theorem i_lt (a b : Int32) : (a < b) = (a.toInt < b.toInt) := propext Int32.lt_iff_toInt_lt
theorem i_le (a b : Int32) : (a ≤ b) = (a.toInt ≤ b.toInt) := propext Int32.le_iff_toInt_le
theorem i_eq (a b : Int32) : (a = b) = (a.toInt = b.toInt) := propext ⟨fun h => by rw [h], fun h => Int32.toInt_inj.mp h⟩
theorem i_n {n : Nat} (h : n < 2 ^ 31) : (nI n).toInt = (n : Int) := nI_toInt h
/-- a number from outside is in 0 .. n-1 -/
def inN (x : Int32) (n : Nat) : Bool := decide (0 ≤ x.toInt ∧ x.toInt < n)
theorem inN_t {x : Int32} {n : Nat} (h : 0 ≤ x.toInt ∧ x.toInt < n) : inN x n = true := decide_eq_true h
theorem inN_f {x : Int32} {n : Nat} (h : ¬ (0 ≤ x.toInt ∧ x.toInt < n)) : inN x n = false := decide_eq_false h
theorem inN_of {x : Int32} {n : Nat} (h : inN x n = true) (hn : n ≤ 2 ^ 31) : ∃ j, j < n ∧ x = nI j := by
  have h := of_decide_eq_true h
  refine ⟨x.toInt.toNat, by omega, Int32.toInt_inj.mp ?_⟩
  rw [i_n (by omega)]
  omega
theorem inN_nI {j n : Nat} (h : j < 2 ^ 31) : inN (nI j) n = decide (j < n) := by
  unfold inN
  rw [i_n h]
  by_cases q : j < n
  · rw [decide_eq_true q, decide_eq_true]; omega
  · rw [decide_eq_false q, decide_eq_false]; omega
theorem p0_knowsX {b n : Nat} {x : Int32} {M : MM} {Q : Int32 → MM → Prop} (h4 : M b 4 = nI n) (hn : n ≤ 10) (k : Q (b2 (inN x n)) M) : D0_knows b x M Q := by
  unfold D0_knows
  rw [h4]
  simp only [z_lit, i_lt, i_le, i_n (show 0 < 2 ^ 31 by decide), i_n (show n < 2 ^ 31 by omega), i_n (show 10 < 2 ^ 31 by decide)]
  refine ⟨fun c => ?_, fun c => ⟨fun c2 => ?_, fun c2 => ⟨fun c3 => by omega, fun c3 => ?_⟩⟩⟩
  · rw [b2_f (inN_f (by omega))] at k; exact k
  · rw [b2_f (inN_f (by omega))] at k; exact k
  · rw [b2_t (inN_t (by omega))] at k; exact k
theorem lgc_lt (x y : Int64) : (lg_cmp x y < 0) = (x.toInt < y.toInt) := by
  unfold lg_cmp
  have e := Int64.lt_iff_toInt_lt (x := y) (y := x)
  have e2 : x = y ↔ x.toInt = y.toInt := ⟨fun h => by rw [h], fun h => Int64.toInt_inj.mp h⟩
  by_cases h1 : y < x
  · rw [if_pos h1]
    have := e.mp h1
    exact propext ⟨fun h => absurd h (by decide), fun h => by omega⟩
  · rw [if_neg h1]
    by_cases h2 : x = y
    · rw [if_pos h2]
      have := e2.mp h2
      exact propext ⟨fun h => absurd h (by decide), fun h => by omega⟩
    · rw [if_neg h2]
      have a1 : ¬ y.toInt < x.toInt := fun h => h1 (e.mpr h)
      have a2 : ¬ x.toInt = y.toInt := fun h => h2 (e2.mpr h)
      exact propext ⟨fun _ => by omega, fun _ => by decide⟩
theorem lgc_gt (x y : Int64) : (0 < lg_cmp x y) = (y.toInt < x.toInt) := by
  unfold lg_cmp
  have e := Int64.lt_iff_toInt_lt (x := y) (y := x)
  by_cases h1 : y < x
  · rw [if_pos h1]
    exact propext ⟨fun _ => e.mp h1, fun _ => by decide⟩
  · rw [if_neg h1]
    have a1 : ¬ y.toInt < x.toInt := fun h => h1 (e.mpr h)
    split
    · exact propext ⟨fun h => absurd h (by decide), fun h => absurd h a1⟩
    · exact propext ⟨fun h => absurd h (by decide), fun h => absurd h a1⟩
theorem p5_in {x a c : Int64} {M : MM} {Q : Int32 → MM → Prop} (k : Q (b2 (decide (a.toInt ≤ x.toInt ∧ x.toInt ≤ c.toInt))) M) : D5_in x a c M Q := by
  unfold D5_in
  rw [lgc_lt, lgc_gt]
  refine ⟨fun h => ?_, fun h => ⟨fun h2 => ?_, fun h2 => ?_⟩⟩
  · rw [b2_f (decide_eq_false (by omega))] at k; exact k
  · rw [b2_f (decide_eq_false (by omega))] at k; exact k
  · rw [b2_t (decide_eq_true (by omega))] at k; exact k
theorem p5_isCell {x : Int32} {M : MM} {Q : Int32 → MM → Prop} (k : Q (b2 (inN x 25)) M) : D5_isCell x M Q := by
  unfold D5_isCell
  refine p5_in ⟨b2_bo _, ?_⟩
  have e : decide ((0 : Int64).toInt ≤ x.toInt64.toInt ∧ x.toInt64.toInt ≤ (24 : Int64).toInt) = inN x 25 := by
    unfold inN
    rw [Int32.toInt_toInt64, show (0 : Int64).toInt = 0 from by decide, show (24 : Int64).toInt = 24 from by decide]
    exact decide_eq_decide.mpr (by omega)
  rw [e]; exact k
theorem p5_isWork {x : Int32} {n : Nat} {M : MM} {Q : Int32 → MM → Prop} (h0 : M 62 0 = nI n) (hn : n ≤ 10) (k : Q (b2 (inN x n)) M) : D5_isWork x M Q := by
  unfold D5_isWork
  refine p5_in ⟨b2_bo _, ?_⟩
  have e : decide ((0 : Int64).toInt ≤ x.toInt64.toInt ∧ x.toInt64.toInt ≤ (M 62 0 - 1).toInt64.toInt) = inN x n := by
    unfold inN
    rw [Int32.toInt_toInt64, Int32.toInt_toInt64, h0, show (0 : Int64).toInt = 0 from by decide, show (nI n - (1 : Int32)).toInt = (n : Int) - 1 from pk_sub_toInt (a := n) (b := 1) (by omega) (by decide)]
    exact decide_eq_decide.mpr (by omega)
  rw [e]; exact k
theorem p4_isCell {x : Int32} {M : MM} {Q : Int32 → MM → Prop} (k : Q (b2 (inN x 25)) M) : D4_isCell x M Q := by
  unfold D4_isCell
  simp only [z_lit, i_lt, i_le, i_n (show 0 < 2 ^ 31 by decide), i_n (show 25 < 2 ^ 31 by decide)]
  refine ⟨fun c => ?_, fun c => ⟨fun c2 => ?_, fun c2 => ?_⟩⟩
  · rw [b2_f (inN_f (by omega))] at k; exact k
  · rw [b2_f (inN_f (by omega))] at k; exact k
  · rw [b2_t (inN_t (by omega))] at k; exact k
theorem p4_isKind {x : Int32} {M : MM} {Q : Int32 → MM → Prop} (k : Q (b2 (inN x 6)) M) : D4_isKind x M Q := by
  unfold D4_isKind
  simp only [z_lit, i_lt, i_le, i_n (show 0 < 2 ^ 31 by decide), i_n (show 6 < 2 ^ 31 by decide)]
  refine ⟨fun c => ?_, fun c => ⟨fun c2 => ?_, fun c2 => ?_⟩⟩
  · rw [b2_f (inN_f (by omega))] at k; exact k
  · rw [b2_f (inN_f (by omega))] at k; exact k
  · rw [b2_t (inN_t (by omega))] at k; exact k
