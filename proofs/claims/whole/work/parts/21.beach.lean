/-! PURE PART: a beach, and what the class's memory holds of it -/
/-- a beach: how many works; kind, figure, cell, worn of each; which stand; hour, purse, owed -/
abbrev BV : Type := Nat × (Nat → Nat) × (Nat → Nat) × (Nat → Nat) × (Nat → Nat) × (Nat → Bool) × Nat × Nat × Nat
abbrev bN (B : BV) : Nat := B.1
abbrev bK (B : BV) : Nat → Nat := B.2.1
abbrev bF (B : BV) : Nat → Nat := B.2.2.1
abbrev bC (B : BV) : Nat → Nat := B.2.2.2.1
abbrev bW (B : BV) : Nat → Nat := B.2.2.2.2.1
abbrev bS (B : BV) : Nat → Bool := B.2.2.2.2.2.1
abbrev bH (B : BV) : Nat := B.2.2.2.2.2.2.1
abbrev bP (B : BV) : Nat := B.2.2.2.2.2.2.2.1
abbrev bO (B : BV) : Nat := B.2.2.2.2.2.2.2.2
/-- the numbers are as they must be (H: the hour's bound) -/
def WF (n H : Nat) (B : BV) : Prop := bN B ≤ n ∧ (∀ j, j < bN B → bK B j < 6 ∧ bF B j < 10 ∧ bC B j < 25 ∧ bW B j < 100) ∧ (∀ j, bS B j = true → j < bN B) ∧ bH B ≤ H ∧ bP B ≤ 9999 ∧ bO B ≤ 9999
/-- the class's memory: a beach at place b -/
def RB (b : Nat) (B : BV) (M : MM) : Prop := M b 4 = nI (bN B) ∧ M b 5 = nI (mk (bS B) 10) ∧ M b 6 = nI (bH B) ∧ M b 7 = nI (bP B) ∧ M b 8 = nI (bO B) ∧ ∀ j, j < bN B → M (b + 1) j = nI (bK B j) ∧ M (b + 2) j = nI (bF B j) ∧ M (b + 3) j = nI (bC B j) ∧ M (b + 4) j = nI (bW B j)
/-- where beaches lie -/
def isB (b : Nat) : Prop := b = 1 ∨ b = 6 ∨ b = 11 ∨ b = 16 ∨ b = 21 ∨ b = 26 ∨ b = 31 ∨ b = 36 ∨ b = 41 ∨ b = 46 ∨ b = 51
theorem isB_ob {b : Nat} (h : isB b) : ob b 0 := by rcases h with rfl | rfl | rfl | rfl | rfl | rfl | rfl | rfl | rfl | rfl | rfl <;> exact ⟨by decide, rfl⟩
theorem isB_ib {b : Nat} (h : isB b) (k : Nat) (h1 : 1 ≤ k) (h4 : k ≤ 4) {j : Nat} (hj : j < 10) : ib (b + k) (nI j) := by
  have e : ln (b + k) = 10 ∧ b + k < 84 ∧ kd (b + k) = 4 := by
    rcases (show k = 1 ∨ k = 2 ∨ k = 3 ∨ k = 4 by omega) with rfl | rfl | rfl | rfl <;> rcases h with rfl | rfl | rfl | rfl | rfl | rfl | rfl | rfl | rfl | rfl | rfl <;> decide
  exact ⟨e.2, by rw [e.1]; exact vp_in_nI hj (by decide)⟩
theorem isB_ib1 {b : Nat} (h : isB b) {j : Nat} (hj : j < 10) : ib (b + 1) (nI j) := isB_ib h 1 (by decide) (by decide) hj
theorem isB_ib2 {b : Nat} (h : isB b) {j : Nat} (hj : j < 10) : ib (b + 2) (nI j) := isB_ib h 2 (by decide) (by decide) hj
theorem isB_ib3 {b : Nat} (h : isB b) {j : Nat} (hj : j < 10) : ib (b + 3) (nI j) := isB_ib h 3 (by decide) (by decide) hj
theorem isB_ib4 {b : Nat} (h : isB b) {j : Nat} (hj : j < 10) : ib (b + 4) (nI j) := isB_ib h 4 (by decide) (by decide) hj
/-- 1 or 0 -/
def b2 (c : Bool) : Int32 := nI c.toNat
theorem b2_t {c : Bool} (h : c = true) : b2 c = nI 1 := by rw [h]; rfl
theorem b2_f {c : Bool} (h : c = false) : b2 c = nI 0 := by rw [h]; rfl
theorem b2_0 {c : Bool} : (b2 c = nI 0) = (c = false) := by cases c <;> decide
theorem b2_n0 {c : Bool} : (b2 c ≠ nI 0) = (c = true) := by cases c <;> decide
theorem b2_1 {c : Bool} : (b2 c = nI 1) = (c = true) := by cases c <;> decide
/-- two ways -/
theorem br2 {c A B : Prop} (ka : c → A) (kb : ¬ c → B) : (c → A) ∧ (¬ c → B) := ⟨ka, kb⟩
theorem p0_knows {b n j : Nat} {M : MM} {Q : Int32 → MM → Prop} (h4 : M b 4 = nI n) (hn : n ≤ 10) (hj : j < 2 ^ 31) (k : Q (b2 (decide (j < n))) M) : D0_knows b (nI j) M Q := by
  unfold D0_knows
  rw [h4]
  simp (disch := omega) only [z_lit, z_lt, z_le]
  refine ⟨fun c => by omega, fun _ => ⟨fun c => ?_, fun c => ⟨fun c2 => by omega, fun _ => ?_⟩⟩⟩
  · rw [b2_f (by simpa using c)] at k; exact k
  · rw [b2_t (by simpa using c)] at k; exact k
theorem p0_stands {b j : Nat} {s : Nat → Bool} {M : MM} {Q : Int32 → MM → Prop} (h5 : M b 5 = nI (mk s 10)) (hj : j < 10) (k : Q (b2 (s j)) M) : D0_stands b (nI j) M Q := by
  unfold D0_stands
  rw [h5, z_tb (Nat.lt_trans (mk_lt s 10) (by decide)) j (by omega), mk_bit]
  have e : (if (decide (j < 10) && s j) = true then (1 : Int32) else 0) = b2 (s j) := by simp only [hj, decide_true, Bool.true_and]; cases s j <;> rfl
  rw [e]
  simp (disch := omega) only [z_lit, z_lt, z_le, b2_0]
  refine ⟨fun c => by omega, fun _ => ⟨fun c => by omega, fun _ => ⟨fun c => ?_, fun c => ?_⟩⟩⟩
  · rw [b2_f c] at k; exact k
  · rw [b2_t (by simpa using c)] at k; exact k
theorem p0_kindOf {b n j : Nat} {M : MM} {Q : Int32 → MM → Prop} (hb : isB b) (h4 : M b 4 = nI n) (hn : n ≤ 10) (hj : j < n) (k : Q (M (b + 1) j) M) : D0_kindOf b (nI j) M Q := by
  unfold D0_kindOf
  refine p0_knows h4 hn (by omega) ⟨fun c => ?_, fun _ => ⟨isB_ib1 hb (by omega), ?_⟩⟩
  · rw [z_lit, b2_0] at c; simp at c; omega
  · rw [z_ix (by omega)]; exact k
theorem p0_figureOf {b n j : Nat} {M : MM} {Q : Int32 → MM → Prop} (hb : isB b) (h4 : M b 4 = nI n) (hn : n ≤ 10) (hj : j < n) (k : Q (M (b + 2) j) M) : D0_figureOf b (nI j) M Q := by
  unfold D0_figureOf
  refine p0_knows h4 hn (by omega) ⟨fun c => ?_, fun _ => ⟨isB_ib2 hb (by omega), ?_⟩⟩
  · rw [z_lit, b2_0] at c; simp at c; omega
  · rw [z_ix (by omega)]; exact k
theorem p0_cellOf {b n j : Nat} {M : MM} {Q : Int32 → MM → Prop} (hb : isB b) (h4 : M b 4 = nI n) (hn : n ≤ 10) (hj : j < n) (k : Q (M (b + 3) j) M) : D0_cellOf b (nI j) M Q := by
  unfold D0_cellOf
  refine p0_knows h4 hn (by omega) ⟨fun c => ?_, fun _ => ⟨isB_ib3 hb (by omega), ?_⟩⟩
  · rw [z_lit, b2_0] at c; simp at c; omega
  · rw [z_ix (by omega)]; exact k
theorem p0_wornOf {b n j : Nat} {M : MM} {Q : Int32 → MM → Prop} (hb : isB b) (h4 : M b 4 = nI n) (hn : n ≤ 10) (hj : j < n) (k : Q (M (b + 4) j) M) : D0_wornOf b (nI j) M Q := by
  unfold D0_wornOf
  refine p0_knows h4 hn (by omega) ⟨fun c => ?_, fun _ => ⟨isB_ib4 hb (by omega), ?_⟩⟩
  · rw [z_lit, b2_0] at c; simp at c; omega
  · rw [z_ix (by omega)]; exact k
