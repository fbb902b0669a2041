/-! PURE PART: the model's water -/
theorem fb_holes : ∀ (m n : Nat) (f : Nat → Nat), (∀ i, i < n → f i < m) → (∀ i j, i < j → j < n → f i ≠ f j) → n ≤ m := by
  intro m
  induction m with
  | zero =>
    intro n f h1 _
    rcases Nat.eq_zero_or_pos n with h | h
    · omega
    · exact absurd (h1 0 h) (Nat.not_lt_zero _)
  | succ m ih =>
    intro n f h1 h2
    by_cases hx : ∃ i, i < n ∧ f i = m
    · obtain ⟨a, ha, hfa⟩ := hx
      have hg := ih (n - 1) (fun i => if i < a then f i else f (i + 1)) (by
        intro i hi
        by_cases q : i < a
        · simp only [if_pos q]
          have b1 := h1 i (by omega)
          have b2 := h2 i a q ha
          omega
        · simp only [if_neg q]
          have b1 := h1 (i + 1) (by omega)
          have b2 := h2 a (i + 1) (by omega) (by omega)
          omega) (by
        intro i j hij hj
        by_cases q : i < a
        · by_cases r : j < a
          · simp only [if_pos q, if_pos r]
            exact h2 i j hij (by omega)
          · simp only [if_pos q, if_neg r]
            exact h2 i (j + 1) (by omega) (by omega)
        · have r : ¬ j < a := by omega
          simp only [if_neg q, if_neg r]
          exact h2 (i + 1) (j + 1) (by omega) (by omega))
      omega
    · have hg := ih n f (fun i hi => by
        have b1 := h1 i hi
        have b2 : f i ≠ m := fun e => hx ⟨i, hi, e⟩
        omega) h2
      omega
/-- two of them in one place -/
theorem ibc {p n j : Nat} (h1 : p < 84 ∧ kd p = 4) (h2 : ln p = n) (hj : j < n) (hn : n < 2 ^ 31) : ib p (nI j) := ⟨h1, by rw [h2]; exact vp_in_nI hj hn⟩
theorem p5_hasBit {m j : Nat} {M : MM} {Q : Int32 → MM → Prop} (hm : m < 2 ^ 31) (hj : j < 31) (q : Q (b2 (m.testBit j)) M) : D5_hasBit (nI m) (nI j) M Q := by
  unfold D5_hasBit
  rw [z_tb hm j hj]
  cases h : m.testBit j
  · rw [h] at q; exact ⟨fun _ => q, fun z => absurd z (by decide)⟩
  · rw [h] at q; exact ⟨fun z => absurd rfl z, fun _ => q⟩
theorem p5_held {a h : Nat} {M : MM} {Q : Int32 → MM → Prop} (ha : a < 2 ^ 31) (hh : h < 2 ^ 31) (q : Q (nI (if a ≤ h then a else h)) M) : D5_held (nI a) (nI h) M Q := by
  unfold D5_held
  refine ⟨fun _ => ?_, fun z => absurd (nI_pos' ha) z⟩
  rw [z_le ha hh]
  refine ⟨fun c => ?_, fun c => ?_⟩
  · rw [if_pos c] at q; exact q
  · rw [if_neg c] at q; exact q
theorem p5_heldN {x : Int32} {h : Nat} {M : MM} {Q : Int32 → MM → Prop} (hx : ¬ 0 ≤ x) (q : Q (nI 0) M) : D5_held x (nI h) M Q := ⟨fun z => absurd z hx, fun _ => q⟩
theorem p5_levelAt {h : Nat} {M : MM} {Q : Int32 → MM → Prop} (hh : h < 2 ^ 30) (q : Q (nI (lev h)) M) : D5_levelAt (nI h) M Q := by
  unfold D5_levelAt
  have e1 : nI h - nI h / 12 * 12 = nI (h % 12) := pk_rem (d := 12) (by omega) (by decide) (by decide)
  rw [e1]
  rw [lev_eq] at q
  have hr : h % 12 < 12 := Nat.mod_lt _ (by decide)
  generalize h % 12 = r at q hr
  have el : lev r = if r ≤ 6 then r - 1 else 11 - r := by unfold lev; rw [Nat.mod_eq_of_lt hr]
  refine ⟨fun c => ?_, fun c => ?_⟩
  · have h6 : 6 ≤ r := by
      rcases Nat.lt_or_ge r 6 with z | z
      · exact absurd c ((by decide +kernel : ∀ r, r < 6 → ¬ 0 ≤ nI r - 6) r z)
      · exact z
    unfold D5_levelAt_c19
    rw [show (5 : Int32) - (nI r - 6) = nI (11 - r) from (by decide +kernel : ∀ r, r < 12 → 6 ≤ r → (5 : Int32) - (nI r - 6) = nI (11 - r)) r hr h6]
    refine p5_held (a := 11 - r) (h := 5) (by omega) (by decide) ?_
    rw [if_pos (by omega)]
    rw [el] at q
    split at q
    · rw [show 11 - r = r - 1 by omega]; exact q
    · exact q
  · have h6 : r < 6 := by
      rcases Nat.lt_or_ge r 6 with z | z
      · exact z
      · exact absurd ((by decide +kernel : ∀ r, r < 12 → 6 ≤ r → 0 ≤ nI r - 6) r hr z) c
    unfold D5_levelAt_c19
    rw [el, if_pos (by omega)] at q
    rcases Nat.eq_zero_or_pos r with z | z
    · subst z
      exact p5_heldN (by decide) q
    · rw [show (5 : Int32) - -(nI r - 6) = nI (r - 1) from (by decide +kernel : ∀ r, r < 6 → 0 < r → (5 : Int32) - -(nI r - 6) = nI (r - 1)) r h6 z]
      refine p5_held (a := r - 1) (h := 5) (by omega) (by decide) ?_
      rw [if_pos (by omega)]
      exact q
theorem nbw_lt {c way d : Nat} (hc : c < 25) (h : nbw c way = some d) : d < 25 := by
  unfold nbw at h
  split at h <;> split at h <;> cases h <;> omega
theorem p5_beside {c way : Nat} {M : MM} {Q : Int32 → MM → Prop} (hc : c < 25) (hw : way < 4) (q1 : ∀ d, nbw c way = some d → d < 25 → Q (nI d) M) (q2 : ∀ r, nbw c way = none → r < 0 → Q r M) : D5_beside (nI c) (nI way) M Q := by
  have e1 : nI c - nI c / 5 * 5 = nI (c % 5) := pk_rem (d := 5) (by omega) (by decide) (by decide)
  unfold D5_beside
  rw [e1]
  rcases (show way = 0 ∨ way = 1 ∨ way = 2 ∨ way = 3 by omega) with rfl | rfl | rfl | rfl
  · refine sw_t (by decide) ?_
    by_cases z : 5 ≤ c
    · rw [show nI c - 5 = nI (c - 5) from pk_sub z]
      exact q1 _ (by simp [nbw, z]) (by omega)
    · exact q2 _ (by simp [nbw, z]) (pk_sneg (b := 5) (by decide) (by omega))
  · refine sw_f (by decide) (sw_t (by decide) ?_)
    rw [show (4 : Int32) = nI 4 from rfl, z_le (by decide) (by omega)]
    refine ⟨fun z => q2 _ (by simp [nbw]; omega) (by decide), fun z => ?_⟩
    rw [nI_1]
    exact q1 _ (by simp [nbw]; omega) (by omega)
  · refine sw_f (by decide) (sw_f (by decide) (sw_t (by decide) ?_))
    rw [show (20 : Int32) = nI 20 from rfl, z_le (by decide) (by omega)]
    refine ⟨fun z => q2 _ (by simp [nbw]; omega) (by decide), fun z => ?_⟩
    rw [show nI c + 5 = nI (c + 5) from nI_add c 5]
    exact q1 _ (by simp [nbw]; omega) (by omega)
  · refine sw_f (by decide) (sw_f (by decide) (sw_f (by decide) ?_))
    rw [show (0 : Int32) = nI 0 from rfl, z_le (by omega) (by decide)]
    refine ⟨fun z => q2 _ (by simp [nbw]; omega) (by decide), fun z => ?_⟩
    rw [show nI c - 1 = nI (c - 1) from pk_sub (a := c) (b := 1) (by omega)]
    exact q1 _ (by simp [nbw]; omega) (by omega)
/-- works that stop the sea, below w -/
def stB (B : BV) : Nat → Nat → Bool
  | 0, _ => false
  | w + 1, c => stB B w c || (bS B w && decide (bK B w ≠ 2) && decide (bC B w = c))
theorem opM_bit (B : BV) (l : Nat) : ∀ w c, (opM B l w).testBit c = ((rowsM l).testBit c && !(stB B w c))
  | 0, c => by simp [opM, stB]
  | w + 1, c => by
    have ih := opM_bit B l w c
    unfold opM stB
    split
    · rename_i h
      rw [clr_bit (Nat.lt_trans (opM_lt B l w) (by decide)), ih]
      rw [h.1]
      by_cases z : bC B w = c
      · subst z; simp [h.2]
      · have : c ≠ bC B w := fun y => z y.symm
        simp [h.2, z, this]
    · rename_i h
      rw [ih]
      have : (bS B w && decide (bK B w ≠ 2)) = false := by
        rcases hs : bS B w with _ | _
        · rfl
        · simp; simpa [hs] using h
      rw [this]
      simp
theorem rowsM_bit {l c : Nat} (hc : c < 25) : (rowsM l).testBit c = decide (5 - l ≤ c / 5) := by
  unfold rowsM
  rw [mk_bit]
  simp [hc]
/-- the queue: t cells q, their set W; O: the open cells -/
def QS (O t : Nat) (q : Nat → Nat) (W : Nat) : Prop := (∀ i, i < t → q i < 25 ∧ (flo O i).testBit (q i) = true) ∧ (∀ i j, i < j → j < t → q i ≠ q j) ∧ W < 2 ^ 25 ∧ ∀ c, W.testBit c = true ↔ ∃ i, i < t ∧ q i = c
theorem QS_le {O t W : Nat} {q : Nat → Nat} (h : QS O t q W) : t ≤ 25 := fb_holes 25 t q (fun i hi => (h.1 i hi).1) h.2.1
theorem flo_mono {O i c : Nat} (h : (flo O i).testBit c = true) : ∀ j, i ≤ j → (flo O j).testBit c = true := by
  intro j hj
  induction j with
  | zero => rw [show i = 0 by omega] at h; exact h
  | succ j ih =>
    rcases Nat.eq_or_lt_of_le hj with z | z
    · rw [← z]; exact h
    · show (flo O j ||| (besM (flo O j) &&& O)).testBit c = true
      rw [Nat.testBit_or, ih (by omega), Bool.true_or]
theorem QS_add {O t W c : Nat} {q : Nat → Nat} (h : QS O t q W) (hc : c < 25) (hW : W.testBit c = false) (hf : (flo O t).testBit c = true) : QS O (t + 1) (fun j => if j = t then c else q j) (W ||| 2 ^ c) := by
  have hne : ∀ i, i < t → q i ≠ c := fun i hi e => by
    have := (h.2.2.2 c).mpr ⟨i, hi, e⟩
    rw [hW] at this; cases this
  refine ⟨fun i hi => ?_, fun i j hij hj => ?_, ?_, fun d => ?_⟩
  · by_cases z : i = t
    · subst z; simp [hc, hf]
    · have := h.1 i (by omega)
      simpa [z] using this
  · have hit : i ≠ t := by omega
    by_cases z : j = t
    · subst z; simp [hit]; exact hne i (by omega)
    · simp [hit, z]; exact h.2.1 i j hij (by omega)
  · exact Nat.or_lt_two_pow h.2.2.1 (Nat.pow_lt_pow_right (by decide) hc)
  · rw [Nat.testBit_or, Nat.testBit_two_pow]
    simp only [Bool.or_eq_true, decide_eq_true_eq]
    rw [h.2.2.2 d]
    constructor
    · rintro (⟨i, hi, e⟩ | e)
      · exact ⟨i, by omega, by rw [if_neg (by omega)]; exact e⟩
      · exact ⟨t, by omega, by rw [if_pos rfl]; exact e⟩
    · rintro ⟨i, hi, e⟩
      by_cases z : i = t
      · rw [if_pos z] at e; exact Or.inr e
      · rw [if_neg z] at e; exact Or.inl ⟨i, by omega, e⟩
