/-! PURE PART: what kinds do; the sea's numbers -/
def hold (k f : Nat) : Nat := match k with
  | 0 => f / 3 + 1
  | 1 => f / 3 + 2
  | 2 => f + 2
  | 3 => 2 * (f / 3 + 2)
  | 4 => f / 3 + 2
  | _ => 2 * (f / 3 + 2) - 1
def rate (k f : Nat) : Nat := match k with
  | 0 => f
  | 1 => f + 10
  | 2 => 5
  | 3 => 3 * (f + 10) - 10
  | 4 => 20
  | _ => 2 * (3 * (f + 10) - 10)
def lets (k f : Nat) : Nat := match k with
  | 0 => 0
  | 1 => f
  | 2 => 0
  | 3 => f + 5
  | 4 => 7
  | _ => f + 5 + f
theorem k6 {k : Nat} (h : k < 6) : k = 0 ∨ k = 1 ∨ k = 2 ∨ k = 3 ∨ k = 4 ∨ k = 5 := by omega
theorem hold_lt : ∀ k, k < 6 → ∀ f, f < 10 → hold k f < 20 := by decide +kernel
theorem rate_lt : ∀ k, k < 6 → ∀ f, f < 10 → rate k f < 100 := by decide +kernel
theorem lets_lt : ∀ k, k < 6 → ∀ f, f < 10 → lets k f < 30 := by decide +kernel
/-- a chain of cases at a known number -/
theorem sw_t {c A B : Prop} (h : c) (a : A) : (c → A) ∧ (¬ c → B) := ⟨fun _ => a, fun z => absurd h z⟩
theorem sw_f {c A B : Prop} (h : ¬ c) (b : B) : (c → A) ∧ (¬ c → B) := ⟨fun z => absurd z h, fun _ => b⟩
theorem p1_holdsFor {k f : Nat} {M : MM} {Q : Int32 → MM → Prop} (hk : k < 6) (hf : f < 10) (q : Q (nI (hold k f)) M) : D1_holdsFor (nI k) (nI f) M Q := by
  unfold D1_holdsFor
  rcases k6 hk with rfl | rfl | rfl | rfl | rfl | rfl
  · exact sw_t (by decide) ((by decide +kernel : ∀ f, f < 10 → nI (hold 0 f) = nI f / 3 + 1) f hf ▸ q)
  · exact sw_f (by decide) (sw_t (by decide) ((by decide +kernel : ∀ f, f < 10 → nI (hold 1 f) = nI f / 3 + 1 + 1) f hf ▸ q))
  · exact sw_f (by decide) (sw_f (by decide) (sw_t (by decide) ((by decide +kernel : ∀ f, f < 10 → nI (hold 2 f) = nI f + 2) f hf ▸ q)))
  · exact sw_f (by decide) (sw_f (by decide) (sw_f (by decide) (sw_t (by decide) ((by decide +kernel : ∀ f, f < 10 → nI (hold 3 f) = 2 * (nI f / 3 + 1 + 1)) f hf ▸ q))))
  · exact sw_f (by decide) (sw_f (by decide) (sw_f (by decide) (sw_f (by decide) (sw_t (by decide) ((by decide +kernel : ∀ f, f < 10 → nI (hold 4 f) = nI f / 3 + 1 + 1) f hf ▸ q)))))
  · exact sw_f (by decide) (sw_f (by decide) (sw_f (by decide) (sw_f (by decide) (sw_f (by decide) ((by decide +kernel : ∀ f, f < 10 → nI (hold 5 f) = 2 * (nI f / 3 + 1 + 1) - 1) f hf ▸ q)))))
theorem p1_rateFor {k f : Nat} {M : MM} {Q : Int32 → MM → Prop} (hk : k < 6) (hf : f < 10) (q : Q (nI (rate k f)) M) : D1_rateFor (nI k) (nI f) M Q := by
  unfold D1_rateFor
  rcases k6 hk with rfl | rfl | rfl | rfl | rfl | rfl
  · exact sw_t (by decide) q
  · exact sw_f (by decide) (sw_t (by decide) ((by decide +kernel : ∀ f, f < 10 → nI (rate 1 f) = nI f + 10) f hf ▸ q))
  · exact sw_f (by decide) (sw_f (by decide) (sw_t (by decide) q))
  · exact sw_f (by decide) (sw_f (by decide) (sw_f (by decide) (sw_t (by decide) ((by decide +kernel : ∀ f, f < 10 → nI (rate 3 f) = 3 * (nI f + 10) - 10) f hf ▸ q))))
  · exact sw_f (by decide) (sw_f (by decide) (sw_f (by decide) (sw_f (by decide) (sw_t (by decide) q))))
  · exact sw_f (by decide) (sw_f (by decide) (sw_f (by decide) (sw_f (by decide) (sw_f (by decide) ((by decide +kernel : ∀ f, f < 10 → nI (rate 5 f) = 2 * (3 * (nI f + 10) - 10)) f hf ▸ q)))))
theorem p1_letsFor {k f : Nat} {M : MM} {Q : Int32 → MM → Prop} (hk : k < 6) (hf : f < 10) (q : Q (nI (lets k f)) M) : D1_letsFor (nI k) (nI f) M Q := by
  unfold D1_letsFor
  rcases k6 hk with rfl | rfl | rfl | rfl | rfl | rfl
  · exact sw_t (by decide) q
  · exact sw_f (by decide) (sw_t (by decide) q)
  · exact sw_f (by decide) (sw_f (by decide) (sw_t (by decide) q))
  · exact sw_f (by decide) (sw_f (by decide) (sw_f (by decide) (sw_t (by decide) ((by decide +kernel : ∀ f, f < 10 → nI (lets 3 f) = nI f + 5) f hf ▸ q))))
  · exact sw_f (by decide) (sw_f (by decide) (sw_f (by decide) (sw_f (by decide) (sw_t (by decide) q))))
  · exact sw_f (by decide) (sw_f (by decide) (sw_f (by decide) (sw_f (by decide) (sw_f (by decide) ((by decide +kernel : ∀ f, f < 10 → nI (lets 5 f) = nI f + 5 + nI f) f hf ▸ q)))))
theorem p1_stopsSea {k : Nat} {M : MM} {Q : Int32 → MM → Prop} (hk : k < 6) (q : Q (b2 (decide (k ≠ 2))) M) : D1_stopsSea (nI k) M Q := by
  unfold D1_stopsSea
  rcases k6 hk with rfl | rfl | rfl | rfl | rfl | rfl
  · exact sw_f (by decide) q
  · exact sw_f (by decide) q
  · exact sw_t (by decide) q
  · exact sw_f (by decide) q
  · exact sw_f (by decide) q
  · exact sw_f (by decide) q
theorem p3_has {m j : Nat} {M : MM} {Q : Int32 → MM → Prop} (hm : m < 2 ^ 31) (hj : j < 31) (q : Q (b2 (m.testBit j)) M) : D3_has (nI m) (nI j) M Q := by
  unfold D3_has
  rw [z_tb hm j hj]
  cases h : m.testBit j
  · rw [h] at q; exact sw_t (by decide) q
  · rw [h] at q; exact sw_f (by decide) q
/-- LEVEL at an hour -/
def lev (h : Nat) : Nat := if h % 12 ≤ 6 then h % 12 - 1 else 11 - h % 12
theorem lev_le (h : Nat) : lev h ≤ 5 := by unfold lev; split <;> omega
theorem lev_eq (h : Nat) : lev h = lev (h % 12) := by unfold lev; rw [Nat.mod_mod]
theorem p3_height {h : Nat} {M : MM} {Q : Int32 → MM → Prop} (hh : h < 2 ^ 30) (q : Q (nI (lev h)) M) : D3_height (nI h) M Q := by
  unfold D3_height DJ9_floorMod
  refine ⟨by decide, ?_⟩
  have e1 : nI h - nI h / 12 * 12 = nI (h % 12) := pk_rem (d := 12) (by omega) (by decide) (by decide)
  have e2 : 0 ≤ nI h ^^^ 12 := by
    rw [show (12 : Int32) = nI 12 from rfl, z_xor]
    exact nI_pos' (Nat.lt_of_lt_of_le (Nat.xor_lt_two_pow (n := 30) hh (by decide)) (by decide))
  refine ⟨fun _ => ?_, fun c => absurd e2 c⟩
  rw [e1]
  have e3 := (by decide +kernel : ∀ r, r < 12 → (if (0 : Int32) < ((5 : Int32) - (if 0 ≤ (nI r - (6 : Int32)) then (nI r - (6 : Int32)) else 0 - (nI r - (6 : Int32)))) then ((5 : Int32) - (if 0 ≤ (nI r - (6 : Int32)) then (nI r - (6 : Int32)) else 0 - (nI r - (6 : Int32)))) else (0 : Int32)) = nI (lev r)) (h % 12) (Nat.mod_lt _ (by decide))
  show Q (if (0 : Int32) < ((5 : Int32) - (if 0 ≤ (nI (h % 12) - (6 : Int32)) then (nI (h % 12) - (6 : Int32)) else 0 - (nI (h % 12) - (6 : Int32)))) then ((5 : Int32) - (if 0 ≤ (nI (h % 12) - (6 : Int32)) then (nI (h % 12) - (6 : Int32)) else 0 - (nI (h % 12) - (6 : Int32)))) else (0 : Int32)) M
  rw [e3, ← lev_eq]
  exact q
/-- the cells of the lowest rows -/
def rowsM (l : Nat) : Nat := mk (fun c => decide (5 - l ≤ c / 5)) 25
theorem p3_lowestRows {l : Nat} {M : MM} {Q : Int32 → MM → Prop} (hl : l ≤ 5) (q : Q (nI (rowsM l)) M) : D3_lowestRows (nI l) M Q := by
  unfold D3_lowestRows
  have e := (by decide +kernel : ∀ l, l < 6 → ((33554431 : Int32) &&& ((33554431 : Int32) <<< (((5 : Int32) * ((5 : Int32) - nI l)) &&& 31))) = nI (rowsM l)) l (by omega)
  rw [e]
  exact q
/-- BESIDE, of sets of cells -/
def besM (m : Nat) : Nat := ((((m &&& 16236015) * 2 ||| (m &&& 32472030) / 2) ||| m * 32) ||| m / 32) &&& 33554431
theorem p3_beside {m : Nat} {M : MM} {Q : Int32 → MM → Prop} (hm : m < 2 ^ 25) (q : Q (nI (besM m)) M) : D3_beside (nI m) M Q := by
  unfold D3_beside
  have a1 : m &&& 16236015 ≤ m := Nat.and_le_left
  have a2 : m &&& 32472030 ≤ m := Nat.and_le_left
  have e1 : (nI m &&& (16236015 : Int32)) <<< ((1 : Int32) &&& 31) = nI ((m &&& 16236015) * 2) := by
    rw [show (16236015 : Int32) = nI 16236015 from rfl, z_and]
    exact pk_shlN _ 1 (by decide) (by omega)
  have e2 : (nI m &&& (32472030 : Int32)) >>> ((1 : Int32) &&& 31) = nI ((m &&& 32472030) / 2) := by
    rw [show (32472030 : Int32) = nI 32472030 from rfl, z_and]
    exact pk_shrN (by omega) _ 1 (by decide)
  have e3 : nI m <<< ((5 : Int32) &&& 31) = nI (m * 32) := pk_shlN _ 5 (by decide) (by omega)
  have e4 : nI m >>> ((5 : Int32) &&& 31) = nI (m / 32) := pk_shrN (by omega) _ 5 (by decide)
  rw [e1, e2, e3, e4, show (33554431 : Int32) = nI 33554431 from rfl]
  simp only [z_or, z_and]
  exact q
theorem besM_lt (m : Nat) : besM m < 2 ^ 25 := Nat.and_lt_two_pow _ (by decide)
