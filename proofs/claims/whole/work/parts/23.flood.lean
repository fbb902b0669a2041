/-! PURE PART: what is WET, by the class -/
/-- the open cells: the lowest rows without those that stop, works below w -/
def opM (B : BV) (l : Nat) : Nat → Nat
  | 0 => rowsM l
  | w + 1 => if bS B w = true ∧ bK B w ≠ 2 then clr (opM B l w) (bC B w) else opM B l w
theorem opM_lt (B : BV) (l : Nat) : ∀ w, opM B l w < 2 ^ 25
  | 0 => mk_lt _ _
  | w + 1 => by
    unfold opM
    split
    · exact clr_lt 25 _ (opM_lt B l w)
    · exact opM_lt B l w
def flo (O : Nat) : Nat → Nat
  | 0 => O &&& 32505856
  | i + 1 => flo O i ||| (besM (flo O i) &&& O)
theorem flo_lt {O : Nat} (hO : O < 2 ^ 25) : ∀ i, flo O i < 2 ^ 25
  | 0 => Nat.and_lt_two_pow _ (by decide)
  | i + 1 => Nat.or_lt_two_pow (flo_lt hO i) (Nat.lt_of_le_of_lt Nat.and_le_right hO)
theorem flo_st {O i : Nat} (h : flo O (i + 1) = flo O i) : ∀ j, i ≤ j → flo O j = flo O i := by
  intro j hj
  induction j with
  | zero => rw [show i = 0 by omega]
  | succ j ih =>
    rcases Nat.eq_or_lt_of_le hj with q | q
    · rw [q]
    · have e := ih (by omega)
      show flo O j ||| (besM (flo O j) &&& O) = flo O i
      rw [e]
      exact h
theorem flo_0 {O : Nat} (h : flo O 0 = 0) : ∀ j, flo O j = 0 := by
  intro j
  rw [flo_st (i := 0) (by show flo O 0 ||| (besM (flo O 0) &&& O) = flo O 0; rw [h]; show 0 ||| (besM 0 &&& O) = 0; rw [show besM 0 = 0 from by decide]; simp) j (Nat.zero_le j)]
  exact h
/-- WET: the set of cells -/
def wet (B : BV) (l : Nat) : Nat := flo (opM B l 10) 24
theorem wet_lt (B : BV) (l : Nat) : wet B l < 2 ^ 25 := flo_lt (opM_lt B l 10) 24
theorem p0_wet_loop {b O : Nat} {M : MM} {Q : Int32 → MM → Prop} (hO : O < 2 ^ 25) (q : Q (nI (flo O 24)) M) : ∀ (n i : Nat) (x3 : Nat), i ≤ 25 → 25 - i < n → (i = 0 → x3 = 0) → (∀ j, i = j + 1 → x3 = flo O j) → D0_wetAt_c63 b Q n (nI O) (nI x3) (nI (flo O i)) (nI i) M := by
  intro n
  induction n with
  | zero => intro i x3 hi hn; omega
  | succ n ih =>
    intro i x3 hi hn h0 h1
    have hx3 : x3 < 2 ^ 25 := by
      rcases Nat.eq_zero_or_pos i with e | e
      · rw [h0 e]; decide
      · rw [h1 (i - 1) (by omega)]; exact flo_lt hO _
    have hf := flo_lt hO i
    unfold D0_wetAt_c63
    rw [show (25 : Int32) = nI 25 from rfl]
    simp only [z_le (show 25 < 2 ^ 31 by decide) (show i < 2 ^ 31 by omega), z_eq (show flo O i < 2 ^ 31 by omega) (show x3 < 2 ^ 31 by omega)]
    refine ⟨fun c => ?_, fun c => ⟨fun e => ?_, fun e => ?_⟩⟩
    · rw [h1 24 (by omega)]; exact q
    · have e2 : x3 = flo O 24 := by
        rcases Nat.eq_zero_or_pos i with z | z
        · subst z
          rw [h0 rfl] at e ⊢
          exact (flo_0 e 24).symm
        · have e3 := h1 (i - 1) (by omega)
          have e4 : flo O (i - 1 + 1) = flo O (i - 1) := by rw [show i - 1 + 1 = i by omega, e, e3]
          rw [e3]
          exact (flo_st e4 24 (by omega)).symm
      rw [e2]; exact q
    · refine p3_beside hf ?_
      show D0_wetAt_c63 b Q n (nI O) (nI (flo O i)) (nI (flo O i) ||| (nI (besM (flo O i)) &&& nI O)) (nI i + 1) M
      rw [z_and, z_or, nI_1]
      exact ih (i + 1) (flo O i) (by omega) (by omega) (fun z => by omega) (fun j hj => by rw [show i = j by omega])
theorem p0_open_loop {b l : Nat} {B : BV} {M : MM} {Q : Int32 → MM → Prop} (hb : isB b) (hR : RB b B M) {H : Nat} (hw : WF 10 H B) (q : Q (nI (wet B l)) M) : ∀ (n w : Nat), w ≤ 10 → 10 - w < n → D0_wetAt_c7 b Q n (nI (opM B l w)) (nI w) M := by
  intro n
  induction n with
  | zero => intro w hw1 hn; omega
  | succ n ih =>
    intro w hw1 hn
    have step : D0_wetAt_c46 b (D0_wetAt_c7 b Q n) Q (nI (opM B l (w + 1))) (nI w) M ∨ 10 ≤ w := by
      rcases Nat.lt_or_ge w 10 with z | z
      · refine Or.inl ?_
        show D0_wetAt_c7 b Q n (nI (opM B l (w + 1))) (nI w + 1) M
        rw [nI_1]
        exact ih (w + 1) (by omega) (by omega)
      · exact Or.inr z
    unfold D0_wetAt_c7
    rw [show (10 : Int32) = nI 10 from rfl]
    simp only [z_le (show 10 < 2 ^ 31 by decide) (show w < 2 ^ 31 by omega)]
    refine ⟨fun c => ?_, fun c => ?_⟩
    · have e : w = 10 := by omega
      subst e
      unfold D0_wetAt_c52
      show D0_wetAt_c63 b Q FU (nI (opM B l 10)) (nI 0) (nI (opM B l 10) &&& nI 32505856) (nI 0) M
      rw [z_and]
      exact p0_wet_loop (opM_lt B l 10) q FU 0 0 (by omega) (by decide) (fun _ => rfl) (fun j hj => by omega)
    · have hw9 : w < 10 := by omega
      have step := step.resolve_right c
      refine p0_stands hR.2.1 hw9 ?_
      rw [z_lit, b2_0]
      have eo : opM B l (w + 1) = if bS B w = true ∧ bK B w ≠ 2 then clr (opM B l w) (bC B w) else opM B l w := rfl
      refine ⟨fun e => ?_, fun e => ?_⟩
      · rw [eo, if_neg (by rw [e]; simp)] at step
        exact step
      · have e : bS B w = true := by simpa using e
        have hwn := hw.2.2.1 w e
        obtain ⟨g1, g2, g3, g4⟩ := hw.2.1 w hwn
        obtain ⟨m1, m2, m3, m4⟩ := hR.2.2.2.2.2 w hwn
        refine ⟨isB_ib1 hb hw9, ?_⟩
        rw [z_ix (by omega), m1]
        refine p1_stopsSea g1 ?_
        rw [b2_0]
        refine ⟨fun e2 => ?_, fun e2 => ⟨isB_ib3 hb hw9, ?_⟩⟩
        · have e2 : bK B w = 2 := by simpa using e2
          rw [eo, if_neg (by rw [e2]; simp)] at step
          exact step
        · have e2 : bK B w ≠ 2 := by simpa using e2
          rw [eo, if_pos ⟨e, e2⟩] at step
          rw [m3]
          show D0_wetAt_c46 b (D0_wetAt_c7 b Q n) Q (nI (opM B l w) &&& (((1 : Int32) <<< (nI (bC B w) &&& 31)) ^^^ (-1))) (nI w) M
          rw [z_clear _ _ (by omega)]
          exact step
theorem p0_wetAt {b l : Nat} {B : BV} {M : MM} {Q : Int32 → MM → Prop} (hb : isB b) (hR : RB b B M) {H : Nat} (hw : WF 10 H B) (hl : l ≤ 5) (q : Q (nI (wet B l)) M) : D0_wetAt b (nI l) M Q := by
  unfold D0_wetAt
  exact p3_lowestRows hl (p0_open_loop hb hR hw q FU 0 (by omega) (by decide))
theorem p0_wetNow {b : Nat} {B : BV} {M : MM} {Q : Int32 → MM → Prop} (hb : isB b) (hR : RB b B M) {H : Nat} (hH : H < 2 ^ 30) (hw : WF 10 H B) (q : Q (nI (wet B (lev (bH B)))) M) : D0_wetNow b M Q := by
  unfold D0_wetNow
  rw [hR.2.2.1]
  exact p3_height (Nat.lt_of_le_of_lt hw.2.2.2.1 hH) (p0_wetAt hb hR hw (lev_le _) q)
